theorem d_Sh_move_0 : decode c_Sh_move 0 = .ok (.aload_n 0, 1) := by decide +kernel
theorem d_Sh_move_1 : decode c_Sh_move 1 = .ok (.iload_n 1, 1) := by decide +kernel
theorem d_Sh_move_2 : decode c_Sh_move 2 = .ok (.invokevirtual 20, 3) := by decide +kernel
theorem d_Sh_move_5 : decode c_Sh_move 5 = .ok (.ifCond .eq 54, 3) := by decide +kernel
theorem d_Sh_move_8 : decode c_Sh_move 8 = .ok (.aload_n 0, 1) := by decide +kernel
theorem d_Sh_move_9 : decode c_Sh_move 9 = .ok (.iload_n 3, 1) := by decide +kernel
theorem d_Sh_move_10 : decode c_Sh_move 10 = .ok (.invokevirtual 20, 3) := by decide +kernel
theorem d_Sh_move_13 : decode c_Sh_move 13 = .ok (.ifCond .eq 46, 3) := by decide +kernel
theorem d_Sh_move_16 : decode c_Sh_move 16 = .ok (.aload_n 0, 1) := by decide +kernel
theorem d_Sh_move_17 : decode c_Sh_move 17 = .ok (.iload_n 1, 1) := by decide +kernel
theorem d_Sh_move_18 : decode c_Sh_move 18 = .ok (.iload_n 2, 1) := by decide +kernel
theorem d_Sh_move_19 : decode c_Sh_move 19 = .ok (.iload 5, 2) := by decide +kernel
theorem d_Sh_move_21 : decode c_Sh_move 21 = .ok (.invokevirtual 31, 3) := by decide +kernel
theorem d_Sh_move_24 : decode c_Sh_move 24 = .ok (.ifCond .eq 35, 3) := by decide +kernel
theorem d_Sh_move_27 : decode c_Sh_move 27 = .ok (.aload_n 0, 1) := by decide +kernel
theorem d_Sh_move_28 : decode c_Sh_move 28 = .ok (.iload_n 3, 1) := by decide +kernel
theorem d_Sh_move_29 : decode c_Sh_move 29 = .ok (.iload 4, 2) := by decide +kernel
theorem d_Sh_move_31 : decode c_Sh_move 31 = .ok (.iload 5, 2) := by decide +kernel
theorem d_Sh_move_33 : decode c_Sh_move 33 = .ok (.invokevirtual 31, 3) := by decide +kernel
theorem d_Sh_move_36 : decode c_Sh_move 36 = .ok (.ifCond .eq 23, 3) := by decide +kernel
theorem d_Sh_move_39 : decode c_Sh_move 39 = .ok (.aload_n 0, 1) := by decide +kernel
theorem d_Sh_move_40 : decode c_Sh_move 40 = .ok (.getfield 11, 3) := by decide +kernel
theorem d_Sh_move_43 : decode c_Sh_move 43 = .ok (.iload_n 1, 1) := by decide +kernel
theorem d_Sh_move_44 : decode c_Sh_move 44 = .ok (.aaload, 1) := by decide +kernel
theorem d_Sh_move_45 : decode c_Sh_move 45 = .ok (.iload_n 2, 1) := by decide +kernel
theorem d_Sh_move_46 : decode c_Sh_move 46 = .ok (.aload_n 0, 1) := by decide +kernel
theorem d_Sh_move_47 : decode c_Sh_move 47 = .ok (.getfield 11, 3) := by decide +kernel
theorem d_Sh_move_50 : decode c_Sh_move 50 = .ok (.iload_n 3, 1) := by decide +kernel
theorem d_Sh_move_51 : decode c_Sh_move 51 = .ok (.aaload, 1) := by decide +kernel
theorem d_Sh_move_52 : decode c_Sh_move 52 = .ok (.iload 4, 2) := by decide +kernel
theorem d_Sh_move_54 : decode c_Sh_move 54 = .ok (.iload 5, 2) := by decide +kernel
theorem d_Sh_move_56 : decode c_Sh_move 56 = .ok (.invokestatic 35, 3) := by decide +kernel
theorem d_Sh_move_59 : decode c_Sh_move 59 = .ok (.return_, 1) := by decide +kernel
set_option maxRecDepth 20000 in
theorem w_Sh_move_0 {X : HX} {ad : Nat → Nat} {I : HI} {J : HJ} {N : HN} {r : HJ} {a0 : Nat} {p1 : Int32} {p2 : Int32} {p3 : Int32} {p4 : Int32} {p5 : Int32} (C : Cx X c_Sh_move RX8 6 none rm_Sh_move) (ha0 : gk Tc nC a0 (0, 8))
    (h : Sh_move_0 I N a0 p1 p2 p3 p4 p5 J = some r) : G Tc X ad nC 0 0 I J N (gE X Tc ad nC (I, r, N, fun _ => none)) 0 6 [(0, .ref (ad a0)), (1, .int p1), (2, .int p2), (3, .int p3), (4, .int p4), (5, .int p5)] [] := by
  refine g_aload_n (pc := 0) C d_Sh_move_0 rfl 0 rfl ?_
  refine g_iload_n (pc := 1) C d_Sh_move_1 rfl 1 rfl ?_
  obtain ⟨r1, hc2, h⟩ := o_bn1 h
  refine g_V (pc := 2) (rest := []) C (k_Sh_isSheet (xl X) ha0 hc2) sm_Sh_isSheet ml_Sh_20 im_Sh_isSheet se_Sh_isSheet gcX8 rfl ha0 ⟨rfl, rfl, Nat.le_of_ble_eq_true rfl, Nat.le_of_ble_eq_true rfl⟩ ⟨Nat.zero_le _, Nat.zero_le _⟩ rfl rfl (Nat.le_of_ble_eq_true rfl) d_Sh_move_2 [.int r1] rfl ?_
  refine g_if_eq (pc := 5) C 59 d_Sh_move_5 rfl (fun e3 => ?_) (fun e3 => ?_)
  · have h := o_pos e3 h
    obtain rfl := o_ret h
    exact g_vret (pc := 59) C d_Sh_move_59
  · have h := o_neg e3 h
    refine g_aload_n (pc := 8) C d_Sh_move_8 rfl 0 rfl ?_
    refine g_iload_n (pc := 9) C d_Sh_move_9 rfl 3 rfl ?_
    obtain ⟨r4, hc5, h⟩ := o_bn1 h
    refine g_V (pc := 10) (rest := []) C (k_Sh_isSheet (xl X) ha0 hc5) sm_Sh_isSheet ml_Sh_20 im_Sh_isSheet se_Sh_isSheet gcX8 rfl ha0 ⟨rfl, rfl, Nat.le_of_ble_eq_true rfl, Nat.le_of_ble_eq_true rfl⟩ ⟨Nat.zero_le _, Nat.zero_le _⟩ rfl rfl (Nat.le_of_ble_eq_true rfl) d_Sh_move_10 [.int r4] rfl ?_
    refine g_if_eq (pc := 13) C 59 d_Sh_move_13 rfl (fun e6 => ?_) (fun e6 => ?_)
    · have h := o_pos e6 h
      obtain rfl := o_ret h
      exact g_vret (pc := 59) C d_Sh_move_59
    · have h := o_neg e6 h
      refine g_aload_n (pc := 16) C d_Sh_move_16 rfl 0 rfl ?_
      refine g_iload_n (pc := 17) C d_Sh_move_17 rfl 1 rfl ?_
      refine g_iload_n (pc := 18) C d_Sh_move_18 rfl 2 rfl ?_
      refine g_iload (pc := 19) C d_Sh_move_19 5 rfl ?_
      obtain ⟨r7, hc8, h⟩ := o_bn1 h
      refine g_V (pc := 21) (rest := []) C (k_Sh_hasRun (xl X) ha0 hc8) sm_Sh_hasRun ml_Sh_31 im_Sh_hasRun se_Sh_hasRun gcX8 rfl ha0 ⟨rfl, rfl, Nat.le_of_ble_eq_true rfl, Nat.le_of_ble_eq_true rfl⟩ ⟨Nat.zero_le _, Nat.zero_le _⟩ rfl rfl (Nat.le_of_ble_eq_true rfl) d_Sh_move_21 [.int r7] rfl ?_
      refine g_if_eq (pc := 24) C 59 d_Sh_move_24 rfl (fun e9 => ?_) (fun e9 => ?_)
      · have h := o_pos e9 h
        obtain rfl := o_ret h
        exact g_vret (pc := 59) C d_Sh_move_59
      · have h := o_neg e9 h
        refine g_aload_n (pc := 27) C d_Sh_move_27 rfl 0 rfl ?_
        refine g_iload_n (pc := 28) C d_Sh_move_28 rfl 3 rfl ?_
        refine g_iload (pc := 29) C d_Sh_move_29 4 rfl ?_
        refine g_iload (pc := 31) C d_Sh_move_31 5 rfl ?_
        obtain ⟨r10, hc11, h⟩ := o_bn1 h
        refine g_V (pc := 33) (rest := []) C (k_Sh_hasRun (xl X) ha0 hc11) sm_Sh_hasRun ml_Sh_31 im_Sh_hasRun se_Sh_hasRun gcX8 rfl ha0 ⟨rfl, rfl, Nat.le_of_ble_eq_true rfl, Nat.le_of_ble_eq_true rfl⟩ ⟨Nat.zero_le _, Nat.zero_le _⟩ rfl rfl (Nat.le_of_ble_eq_true rfl) d_Sh_move_33 [.int r10] rfl ?_
        refine g_if_eq (pc := 36) C 59 d_Sh_move_36 rfl (fun e12 => ?_) (fun e12 => ?_)
        · have h := o_pos e12 h
          obtain rfl := o_ret h
          exact g_vret (pc := 59) C d_Sh_move_59
        · have h := o_neg e12 h
          refine g_aload_n (pc := 39) C d_Sh_move_39 rfl 0 rfl ?_
          obtain ⟨b13, hnb13, hb13, h⟩ := o_ra h
          refine g_get (pc := 40) (k := 0) (v := va_rf ((N a0 0).map ad)) C gcX8 inX8 (by decide) fl_Sh_11 ha0 rfl d_Sh_move_40 ?_
          refine g_top (g_rf hnb13) ?_
          refine g_iload_n (pc := 43) C d_Sh_move_43 rfl 1 rfl ?_
          obtain ⟨hi14, h⟩ := o_gd h
          obtain ⟨b15, hnb15, hb15, h⟩ := o_ra h
          refine g_aald (pc := 44) 4 3 C hb13 (Or.inr ⟨rfl, rfl, rfl⟩) hi14 hnb15 d_Sh_move_44 ?_
          refine g_iload_n (pc := 45) C d_Sh_move_45 rfl 2 rfl ?_
          refine g_aload_n (pc := 46) C d_Sh_move_46 rfl 0 rfl ?_
          obtain ⟨b16, hnb16, hb16, h⟩ := o_ra h
          refine g_get (pc := 47) (k := 0) (v := va_rf ((N a0 0).map ad)) C gcX8 inX8 (by decide) fl_Sh_11 ha0 rfl d_Sh_move_47 ?_
          refine g_top (g_rf hnb16) ?_
          refine g_iload_n (pc := 50) C d_Sh_move_50 rfl 3 rfl ?_
          obtain ⟨hi17, h⟩ := o_gd h
          obtain ⟨b18, hnb18, hb18, h⟩ := o_ra h
          refine g_aald (pc := 51) 4 3 C hb16 (Or.inr ⟨rfl, rfl, rfl⟩) hi17 hnb18 d_Sh_move_51 ?_
          refine g_iload (pc := 52) C d_Sh_move_52 4 rfl ?_
          refine g_iload (pc := 54) C d_Sh_move_54 5 rfl ?_
          obtain ⟨hg19, h⟩ := o_gd h
          refine g_copyl (pc := 56) C ml_Sh_35 jd_copy_n jd_copy_s jd_System_i hb15 hb18 hg19 ⟨Nat.le_of_ble_eq_true rfl, Nat.le_of_ble_eq_true rfl⟩ d_Sh_move_56 ?_
          obtain ⟨J20, eJ20, h⟩ := o_bd h
          rw [← eJ20]
          obtain rfl := o_ret h
          exact g_vret (pc := 59) C d_Sh_move_59
set_option maxRecDepth 20000 in
theorem k_Sh_move (l : Launch) {I : HI} {J : HJ} {N : HN} {a0 : Nat} {p1 : Int32} {p2 : Int32} {p3 : Int32} {p4 : Int32} {p5 : Int32} {r : HJ} (ha0 : gk Tc nC a0 (0, 8)) (h : Sh_move I N a0 p1 p2 p3 p4 p5 J = some r) : gM l y_Sh_move c_Sh_move 6 none rm_Sh_move Tc nC I J N (fun ad => [.ref (ad a0), .int p1, .int p2, .int p3, .int p4, .int p5]) (I, r, N, fun _ => none) :=
  g_meth (lv := fun ad => [(0, .ref (ad a0)), (1, .int p1), (2, .int p2), (3, .int p3), (4, .int p4), (5, .int p5)]) (by decide) (fun _ => Nat.le_of_ble_eq_true rfl) (fun _ => rfl) (fun X ad C => g_lv [0, 1, 2, 3, 4, 5] rfl (w_Sh_move_0 C ha0 h))
theorem d_Un_begin_0 : decode c_Un_begin 0 = .ok (.aload_n 0, 1) := by decide +kernel
theorem d_Un_begin_1 : decode c_Un_begin 1 = .ok (.getfield 12, 3) := by decide +kernel
theorem d_Un_begin_4 : decode c_Un_begin 4 = .ok (.invokevirtual 116, 3) := by decide +kernel
theorem d_Un_begin_7 : decode c_Un_begin 7 = .ok (.aload_n 0, 1) := by decide +kernel
theorem d_Un_begin_8 : decode c_Un_begin 8 = .ok (.getfield 21, 3) := by decide +kernel
theorem d_Un_begin_11 : decode c_Un_begin 11 = .ok (.aload_n 1, 1) := by decide +kernel
theorem d_Un_begin_12 : decode c_Un_begin 12 = .ok (.invokevirtual 119, 3) := by decide +kernel
theorem d_Un_begin_15 : decode c_Un_begin 15 = .ok (.return_, 1) := by decide +kernel
set_option maxRecDepth 20000 in
theorem w_Un_begin_0 {X : HX} {ad : Nat → Nat} {I : HI} {J : HJ} {N : HN} {r : HI × HJ} {a0 : Nat} {a1 : Nat} (C : Cx X c_Un_begin RX9 2 none rm_Un_begin) (ha0 : gk Tc nC a0 (0, 9)) (ha1 : gk Tc nC a1 (0, 5))
    (h : Un_begin_0 N a0 a1 I J = some r) : G Tc X ad nC 0 0 I J N (gE X Tc ad nC (r.1, r.2, N, fun _ => none)) 0 2 [(0, .ref (ad a0)), (1, .ref (ad a1))] [] := by
  refine g_aload_n (pc := 0) C d_Un_begin_0 rfl 0 rfl ?_
  obtain ⟨b1, hnb1, hb1, h⟩ := o_rq h
  refine g_get (pc := 1) (k := 0) (v := va_rf ((N a0 0).map ad)) C gcX9 inX9 (by decide) fl_Un_12 ha0 rfl d_Un_begin_1 ?_
  refine g_top (g_rf hnb1) ?_
  obtain ⟨I2, hc3, h⟩ := o_bn1 h
  refine g_V (pc := 4) (rest := []) C (k_La_clear (xl X) hb1 hc3) sm_La_clear ml_Un_116 im_La_clear se_La_clear gcX3 rfl hb1 ⟨rfl, rfl, Nat.le_of_ble_eq_true rfl, Nat.le_of_ble_eq_true rfl⟩ ⟨Nat.zero_le _, Nat.zero_le _⟩ rfl rfl (Nat.le_of_ble_eq_true rfl) d_Un_begin_4 [] rfl ?_
  refine g_aload_n (pc := 7) C d_Un_begin_7 rfl 0 rfl ?_
  obtain ⟨b4, hnb4, hb4, h⟩ := o_rq h
  refine g_get (pc := 8) (k := 1) (v := va_rf ((N a0 1).map ad)) C gcX9 inX9 (by decide) fl_Un_21 ha0 rfl d_Un_begin_8 ?_
  refine g_top (g_rf hnb4) ?_
  refine g_aload_n (pc := 11) C d_Un_begin_11 rfl 1 rfl ?_
  obtain ⟨J5, hc6, h⟩ := o_bn1 h
  refine g_V (pc := 12) (rest := []) C (k_Pa_load (xl X) hb4 ha1 hc6) sm_Pa_load ml_Un_119 im_Pa_load se_Pa_load gcX5 rfl hb4 ⟨rfl, rfl, Nat.le_of_ble_eq_true rfl, Nat.le_of_ble_eq_true rfl⟩ ⟨Nat.zero_le _, Nat.zero_le _⟩ rfl rfl (Nat.le_of_ble_eq_true rfl) d_Un_begin_12 [] rfl ?_
  obtain rfl := o_ret h
  exact g_vret (pc := 15) C d_Un_begin_15
set_option maxRecDepth 20000 in
theorem k_Un_begin (l : Launch) {I : HI} {J : HJ} {N : HN} {a0 : Nat} {a1 : Nat} {r : HI × HJ} (ha0 : gk Tc nC a0 (0, 9)) (ha1 : gk Tc nC a1 (0, 5)) (h : Un_begin N a0 a1 I J = some r) : gM l y_Un_begin c_Un_begin 2 none rm_Un_begin Tc nC I J N (fun ad => [.ref (ad a0), .ref (ad a1)]) (r.1, r.2, N, fun _ => none) :=
  g_meth (lv := fun ad => [(0, .ref (ad a0)), (1, .ref (ad a1))]) (by decide) (fun _ => Nat.le_of_ble_eq_true rfl) (fun _ => rfl) (fun X ad C => g_lv [0, 1] rfl (w_Un_begin_0 C ha0 ha1 h))
theorem d_Un_endOf_0 : decode c_Un_endOf 0 = .ok (.iload_n 1, 1) := by decide +kernel
theorem d_Un_endOf_1 : decode c_Un_endOf 1 = .ok (.ifCond .eq 10, 3) := by decide +kernel
theorem d_Un_endOf_4 : decode c_Un_endOf 4 = .ok (.aload_n 0, 1) := by decide +kernel
theorem d_Un_endOf_5 : decode c_Un_endOf 5 = .ok (.invokevirtual 76, 3) := by decide +kernel
theorem d_Un_endOf_8 : decode c_Un_endOf 8 = .ok (.goto 7, 3) := by decide +kernel
theorem d_Un_endOf_11 : decode c_Un_endOf 11 = .ok (.aload_n 0, 1) := by decide +kernel
theorem d_Un_endOf_12 : decode c_Un_endOf 12 = .ok (.invokevirtual 122, 3) := by decide +kernel
theorem d_Un_endOf_15 : decode c_Un_endOf 15 = .ok (.ireturn, 1) := by decide +kernel
set_option maxRecDepth 20000 in
theorem w_Un_endOf_0 {X : HX} {ad : Nat → Nat} {I : HI} {J : HJ} {N : HN} {r : Int32} {a0 : Nat} {p1 : Int32} (C : Cx X c_Un_endOf RX9 2 (some .int) rm_Un_endOf) (ha0 : gk Tc nC a0 (0, 6))
    (h : Un_endOf_0 J N a0 p1 = some r) : G Tc X ad nC 0 0 I J N (gE X Tc ad nC (I, J, N, fun _ => some (.int r))) 0 2 [(0, .ref (ad a0)), (1, .int p1)] [] := by
  refine g_iload_n (pc := 0) C d_Un_endOf_0 rfl 1 rfl ?_
  refine g_if_eq (pc := 1) C 11 d_Un_endOf_1 rfl (fun e1 => ?_) (fun e1 => ?_)
  · have h := o_pos e1 h
    refine g_aload_n (pc := 11) C d_Un_endOf_11 rfl 0 rfl ?_
    obtain ⟨r2, hc3, h⟩ := o_bn1 h
    refine g_V (pc := 12) (rest := []) C (k_Po_leastPower (xl X) ha0 hc3) sm_Po_leastPower ml_Un_122 im_Po_leastPower se_Po_leastPower gcX6 rfl ha0 ⟨rfl, rfl, Nat.le_of_ble_eq_true rfl, Nat.le_of_ble_eq_true rfl⟩ ⟨Nat.zero_le _, Nat.zero_le _⟩ rfl rfl (Nat.le_of_ble_eq_true rfl) d_Un_endOf_12 [.int r2] rfl ?_
    obtain rfl := o_ret h
    exact g_iret (pc := 15) C d_Un_endOf_15
  · have h := o_neg e1 h
    refine g_aload_n (pc := 4) C d_Un_endOf_4 rfl 0 rfl ?_
    obtain ⟨r4, hc5, h⟩ := o_bn1 h
    refine g_V (pc := 5) (rest := []) C (k_Po_degree (xl X) ha0 hc5) sm_Po_degree ml_Un_76 im_Po_degree se_Po_degree gcX6 rfl ha0 ⟨rfl, rfl, Nat.le_of_ble_eq_true rfl, Nat.le_of_ble_eq_true rfl⟩ ⟨Nat.zero_le _, Nat.zero_le _⟩ rfl rfl (Nat.le_of_ble_eq_true rfl) d_Un_endOf_5 [.int r4] rfl ?_
    refine g_goto (pc := 8) C 15 d_Un_endOf_8 rfl ?_
    obtain rfl := o_ret h
    exact g_iret (pc := 15) C d_Un_endOf_15
set_option maxRecDepth 20000 in
theorem k_Un_endOf (l : Launch) {I : HI} {J : HJ} {N : HN} {a0 : Nat} {p1 : Int32} {r : Int32} (ha0 : gk Tc nC a0 (0, 6)) (h : Un_endOf J N a0 p1 = some r) : gM l y_Un_endOf c_Un_endOf 2 (some .int) rm_Un_endOf Tc nC I J N (fun ad => [.ref (ad a0), .int p1]) (I, J, N, fun _ => some (.int r)) :=
  g_meth (lv := fun ad => [(0, .ref (ad a0)), (1, .int p1)]) (by decide) (fun _ => Nat.le_of_ble_eq_true rfl) (fun _ => rfl) (fun X ad C => g_lv [0, 1] rfl (w_Un_endOf_0 C ha0 h))
theorem d_Un_unlawful_0 : decode c_Un_unlawful 0 = .ok (.bipush (-100), 2) := by decide +kernel
theorem d_Un_unlawful_2 : decode c_Un_unlawful 2 = .ok (.iload_n 0, 1) := by decide +kernel
theorem d_Un_unlawful_3 : decode c_Un_unlawful 3 = .ok (.isub, 1) := by decide +kernel
theorem d_Un_unlawful_4 : decode c_Un_unlawful 4 = .ok (.ireturn, 1) := by decide +kernel
set_option maxRecDepth 20000 in
theorem w_Un_unlawful_0 {X : HX} {ad : Nat → Nat} {I : HI} {J : HJ} {N : HN} {r : Int32} {p0 : Int32} (C : Cx X c_Un_unlawful RX9 1 (some .int) rm_Un_unlawful)
    (h : Un_unlawful_0 p0 = some r) : G Tc X ad nC 0 0 I J N (gE X Tc ad nC (I, J, N, fun _ => some (.int r))) 0 1 [(0, .int p0)] [] := by
  refine g_bipush (pc := 0) C (-100 : Int32) d_Un_unlawful_0 (by decide) ?_
  refine g_iload_n (pc := 2) C d_Un_unlawful_2 rfl 0 rfl ?_
  refine g_isub (pc := 3) C d_Un_unlawful_3 ?_
  obtain rfl := o_ret h
  exact g_iret (pc := 4) C d_Un_unlawful_4
set_option maxRecDepth 20000 in
theorem k_Un_unlawful (l : Launch) {I : HI} {J : HJ} {N : HN} {p0 : Int32} {r : Int32} (h : Un_unlawful p0 = some r) : gM l y_Un_unlawful c_Un_unlawful 1 (some .int) rm_Un_unlawful Tc nC I J N (fun ad => [.int p0]) (I, J, N, fun _ => some (.int r)) :=
  g_meth (lv := fun ad => [(0, .int p0)]) (by decide) (fun _ => Nat.le_of_ble_eq_true rfl) (fun _ => rfl) (fun X ad C => g_lv [0] rfl (w_Un_unlawful_0 C  h))
theorem d_Un_addRising_0 : decode c_Un_addRising 0 = .ok (.aload_n 0, 1) := by decide +kernel
theorem d_Un_addRising_1 : decode c_Un_addRising 1 = .ok (.getfield 38, 3) := by decide +kernel
theorem d_Un_addRising_4 : decode c_Un_addRising 4 = .ok (.getfield 88, 3) := by decide +kernel
theorem d_Un_addRising_7 : decode c_Un_addRising 7 = .ok (.l2i, 1) := by decide +kernel
theorem d_Un_addRising_8 : decode c_Un_addRising 8 = .ok (.istore_n 2, 1) := by decide +kernel
theorem d_Un_addRising_9 : decode c_Un_addRising 9 = .ok (.aload_n 0, 1) := by decide +kernel
theorem d_Un_addRising_10 : decode c_Un_addRising 10 = .ok (.getfield 38, 3) := by decide +kernel
theorem d_Un_addRising_13 : decode c_Un_addRising 13 = .ok (.getfield 174, 3) := by decide +kernel
theorem d_Un_addRising_16 : decode c_Un_addRising 16 = .ok (.l2i, 1) := by decide +kernel
theorem d_Un_addRising_17 : decode c_Un_addRising 17 = .ok (.istore_n 3, 1) := by decide +kernel
theorem d_Un_addRising_18 : decode c_Un_addRising 18 = .ok (.iload_n 1, 1) := by decide +kernel
theorem d_Un_addRising_19 : decode c_Un_addRising 19 = .ok (.ifCond .ne 19, 3) := by decide +kernel
theorem d_Un_addRising_22 : decode c_Un_addRising 22 = .ok (.aload_n 0, 1) := by decide +kernel
theorem d_Un_addRising_23 : decode c_Un_addRising 23 = .ok (.getfield 12, 3) := by decide +kernel
theorem d_Un_addRising_26 : decode c_Un_addRising 26 = .ok (.iload_n 1, 1) := by decide +kernel
theorem d_Un_addRising_27 : decode c_Un_addRising 27 = .ok (.iload_n 2, 1) := by decide +kernel
theorem d_Un_addRising_28 : decode c_Un_addRising 28 = .ok (.iload_n 3, 1) := by decide +kernel
theorem d_Un_addRising_29 : decode c_Un_addRising 29 = .ok (.iconst 0, 1) := by decide +kernel
theorem d_Un_addRising_30 : decode c_Un_addRising 30 = .ok (.iconst 0, 1) := by decide +kernel
theorem d_Un_addRising_31 : decode c_Un_addRising 31 = .ok (.invokevirtual 179, 3) := by decide +kernel
theorem d_Un_addRising_34 : decode c_Un_addRising 34 = .ok (.pop, 1) := by decide +kernel
theorem d_Un_addRising_35 : decode c_Un_addRising 35 = .ok (.goto 16, 3) := by decide +kernel
theorem d_Un_addRising_38 : decode c_Un_addRising 38 = .ok (.aload_n 0, 1) := by decide +kernel
theorem d_Un_addRising_39 : decode c_Un_addRising 39 = .ok (.getfield 12, 3) := by decide +kernel
theorem d_Un_addRising_42 : decode c_Un_addRising 42 = .ok (.iload_n 1, 1) := by decide +kernel
theorem d_Un_addRising_43 : decode c_Un_addRising 43 = .ok (.iconst 0, 1) := by decide +kernel
theorem d_Un_addRising_44 : decode c_Un_addRising 44 = .ok (.iconst 0, 1) := by decide +kernel
theorem d_Un_addRising_45 : decode c_Un_addRising 45 = .ok (.iload_n 2, 1) := by decide +kernel
theorem d_Un_addRising_46 : decode c_Un_addRising 46 = .ok (.iload_n 3, 1) := by decide +kernel
theorem d_Un_addRising_47 : decode c_Un_addRising 47 = .ok (.invokevirtual 179, 3) := by decide +kernel
theorem d_Un_addRising_50 : decode c_Un_addRising 50 = .ok (.pop, 1) := by decide +kernel
theorem d_Un_addRising_51 : decode c_Un_addRising 51 = .ok (.return_, 1) := by decide +kernel
set_option maxRecDepth 20000 in
theorem w_Un_addRising_0 {X : HX} {ad : Nat → Nat} {I : HI} {J : HJ} {N : HN} {r : HI} {a0 : Nat} {p1 : Int32} (C : Cx X c_Un_addRising RX9 4 none rm_Un_addRising) (ha0 : gk Tc nC a0 (0, 9))
    (h : Un_addRising_0 J N a0 p1 I = some r) : G Tc X ad nC 0 0 I J N (gE X Tc ad nC (r, J, N, fun _ => none)) 0 4 [(0, .ref (ad a0)), (1, .int p1)] [] := by
  refine g_aload_n (pc := 0) C d_Un_addRising_0 rfl 0 rfl ?_
  obtain ⟨b1, hnb1, hb1, h⟩ := o_rq h
  refine g_get (pc := 1) (k := 4) (v := va_rf ((N a0 4).map ad)) C gcX9 inX9 (by decide) fl_Un_38 ha0 rfl d_Un_addRising_1 ?_
  refine g_top (g_rf hnb1) ?_
  refine g_getN (pc := 4) (k := 0) (v := .long (J b1 0)) C gcX2 inX2 (by decide) fl_Un_88 hb1 rfl d_Un_addRising_4 ?_
  refine g_l2i (pc := 7) C d_Un_addRising_7 ?_
  obtain ⟨v2, ev2, h⟩ := o_bd h
  refine g_topi ev2 ?_
  refine g_istore_n (pc := 8) (lv' := [(2, .int v2), (0, .ref (ad a0)), (1, .int p1)]) C d_Un_addRising_8 rfl (by decide) rfl ?_
  refine g_aload_n (pc := 9) C d_Un_addRising_9 rfl 1 rfl ?_
  obtain ⟨b3, hnb3, hb3, h⟩ := o_rq h
  refine g_get (pc := 10) (k := 4) (v := va_rf ((N a0 4).map ad)) C gcX9 inX9 (by decide) fl_Un_38 ha0 rfl d_Un_addRising_10 ?_
  refine g_top (g_rf hnb3) ?_
  refine g_getN (pc := 13) (k := 1) (v := .long (J b3 1)) C gcX2 inX2 (by decide) fl_Un_174 hb3 rfl d_Un_addRising_13 ?_
  refine g_l2i (pc := 16) C d_Un_addRising_16 ?_
  obtain ⟨v4, ev4, h⟩ := o_bd h
  refine g_topi ev4 ?_
  refine g_istore_n (pc := 17) (lv' := [(3, .int v4), (2, .int v2), (0, .ref (ad a0)), (1, .int p1)]) C d_Un_addRising_17 rfl (by decide) rfl ?_
  refine g_iload_n (pc := 18) C d_Un_addRising_18 rfl 3 rfl ?_
  refine g_if_ne (pc := 19) C 38 d_Un_addRising_19 rfl (fun e5 => ?_) (fun e5 => ?_)
  · have h := o_neg e5 h
    refine g_aload_n (pc := 38) C d_Un_addRising_38 rfl 2 rfl ?_
    obtain ⟨b6, hnb6, hb6, h⟩ := o_rq h
    refine g_get (pc := 39) (k := 0) (v := va_rf ((N a0 0).map ad)) C gcX9 inX9 (by decide) fl_Un_12 ha0 rfl d_Un_addRising_39 ?_
    refine g_top (g_rf hnb6) ?_
    refine g_iload_n (pc := 42) C d_Un_addRising_42 rfl 3 rfl ?_
    refine g_iconst (pc := 43) C (0 : Int32) d_Un_addRising_43 (by decide) ?_
    refine g_iconst (pc := 44) C (0 : Int32) d_Un_addRising_44 (by decide) ?_
    refine g_iload_n (pc := 45) C d_Un_addRising_45 rfl 1 rfl ?_
    refine g_iload_n (pc := 46) C d_Un_addRising_46 rfl 0 rfl ?_
    obtain ⟨I7, r8, hc9, h⟩ := o_bn2 h
    refine g_V (pc := 47) (rest := []) C (k_La_add (xl X) hb6 hc9) sm_La_add ml_Un_179 im_La_add se_La_add gcX3 rfl hb6 ⟨rfl, rfl, Nat.le_of_ble_eq_true rfl, Nat.le_of_ble_eq_true rfl⟩ ⟨Nat.zero_le _, Nat.zero_le _⟩ rfl rfl (Nat.le_of_ble_eq_true rfl) d_Un_addRising_47 [.int r8] rfl ?_
    refine g_pop (pc := 50) C d_Un_addRising_50 rfl ?_
    obtain rfl := o_ret h
    exact g_vret (pc := 51) C d_Un_addRising_51
  · have h := o_pos e5 h
    refine g_aload_n (pc := 22) C d_Un_addRising_22 rfl 2 rfl ?_
    obtain ⟨b10, hnb10, hb10, h⟩ := o_rq h
    refine g_get (pc := 23) (k := 0) (v := va_rf ((N a0 0).map ad)) C gcX9 inX9 (by decide) fl_Un_12 ha0 rfl d_Un_addRising_23 ?_
    refine g_top (g_rf hnb10) ?_
    refine g_iload_n (pc := 26) C d_Un_addRising_26 rfl 3 rfl ?_
    refine g_iload_n (pc := 27) C d_Un_addRising_27 rfl 1 rfl ?_
    refine g_iload_n (pc := 28) C d_Un_addRising_28 rfl 0 rfl ?_
    refine g_iconst (pc := 29) C (0 : Int32) d_Un_addRising_29 (by decide) ?_
    refine g_iconst (pc := 30) C (0 : Int32) d_Un_addRising_30 (by decide) ?_
    obtain ⟨I11, r12, hc13, h⟩ := o_bn2 h
    refine g_V (pc := 31) (rest := []) C (k_La_add (xl X) hb10 hc13) sm_La_add ml_Un_179 im_La_add se_La_add gcX3 rfl hb10 ⟨rfl, rfl, Nat.le_of_ble_eq_true rfl, Nat.le_of_ble_eq_true rfl⟩ ⟨Nat.zero_le _, Nat.zero_le _⟩ rfl rfl (Nat.le_of_ble_eq_true rfl) d_Un_addRising_31 [.int r12] rfl ?_
    refine g_pop (pc := 34) C d_Un_addRising_34 rfl ?_
    refine g_goto (pc := 35) C 51 d_Un_addRising_35 rfl ?_
    obtain rfl := o_ret h
    exact g_vret (pc := 51) C d_Un_addRising_51
set_option maxRecDepth 20000 in
theorem k_Un_addRising (l : Launch) {I : HI} {J : HJ} {N : HN} {a0 : Nat} {p1 : Int32} {r : HI} (ha0 : gk Tc nC a0 (0, 9)) (h : Un_addRising J N a0 p1 I = some r) : gM l y_Un_addRising c_Un_addRising 4 none rm_Un_addRising Tc nC I J N (fun ad => [.ref (ad a0), .int p1]) (r, J, N, fun _ => none) :=
  g_meth (lv := fun ad => [(0, .ref (ad a0)), (1, .int p1)]) (by decide) (fun _ => Nat.le_of_ble_eq_true rfl) (fun _ => rfl) (fun X ad C => g_lv [0, 1] rfl (w_Un_addRising_0 C ha0 h))
theorem d_Un_addFalling_0 : decode c_Un_addFalling 0 = .ok (.aload_n 0, 1) := by decide +kernel
theorem d_Un_addFalling_1 : decode c_Un_addFalling 1 = .ok (.getfield 38, 3) := by decide +kernel
theorem d_Un_addFalling_4 : decode c_Un_addFalling 4 = .ok (.getfield 174, 3) := by decide +kernel
theorem d_Un_addFalling_7 : decode c_Un_addFalling 7 = .ok (.l2i, 1) := by decide +kernel
theorem d_Un_addFalling_8 : decode c_Un_addFalling 8 = .ok (.istore_n 2, 1) := by decide +kernel
theorem d_Un_addFalling_9 : decode c_Un_addFalling 9 = .ok (.aload_n 0, 1) := by decide +kernel
theorem d_Un_addFalling_10 : decode c_Un_addFalling 10 = .ok (.getfield 38, 3) := by decide +kernel
theorem d_Un_addFalling_13 : decode c_Un_addFalling 13 = .ok (.getfield 88, 3) := by decide +kernel
theorem d_Un_addFalling_16 : decode c_Un_addFalling 16 = .ok (.l2i, 1) := by decide +kernel
theorem d_Un_addFalling_17 : decode c_Un_addFalling 17 = .ok (.istore_n 3, 1) := by decide +kernel
theorem d_Un_addFalling_18 : decode c_Un_addFalling 18 = .ok (.iload_n 1, 1) := by decide +kernel
theorem d_Un_addFalling_19 : decode c_Un_addFalling 19 = .ok (.ifCond .ne 19, 3) := by decide +kernel
theorem d_Un_addFalling_22 : decode c_Un_addFalling 22 = .ok (.aload_n 0, 1) := by decide +kernel
theorem d_Un_addFalling_23 : decode c_Un_addFalling 23 = .ok (.getfield 12, 3) := by decide +kernel
theorem d_Un_addFalling_26 : decode c_Un_addFalling 26 = .ok (.iload_n 1, 1) := by decide +kernel
theorem d_Un_addFalling_27 : decode c_Un_addFalling 27 = .ok (.iconst 0, 1) := by decide +kernel
theorem d_Un_addFalling_28 : decode c_Un_addFalling 28 = .ok (.iconst 0, 1) := by decide +kernel
theorem d_Un_addFalling_29 : decode c_Un_addFalling 29 = .ok (.iload_n 2, 1) := by decide +kernel
theorem d_Un_addFalling_30 : decode c_Un_addFalling 30 = .ok (.iload_n 3, 1) := by decide +kernel
theorem d_Un_addFalling_31 : decode c_Un_addFalling 31 = .ok (.invokevirtual 179, 3) := by decide +kernel
theorem d_Un_addFalling_34 : decode c_Un_addFalling 34 = .ok (.pop, 1) := by decide +kernel
theorem d_Un_addFalling_35 : decode c_Un_addFalling 35 = .ok (.goto 16, 3) := by decide +kernel
theorem d_Un_addFalling_38 : decode c_Un_addFalling 38 = .ok (.aload_n 0, 1) := by decide +kernel
theorem d_Un_addFalling_39 : decode c_Un_addFalling 39 = .ok (.getfield 12, 3) := by decide +kernel
theorem d_Un_addFalling_42 : decode c_Un_addFalling 42 = .ok (.iload_n 1, 1) := by decide +kernel
theorem d_Un_addFalling_43 : decode c_Un_addFalling 43 = .ok (.iload_n 2, 1) := by decide +kernel
theorem d_Un_addFalling_44 : decode c_Un_addFalling 44 = .ok (.iload_n 3, 1) := by decide +kernel
theorem d_Un_addFalling_45 : decode c_Un_addFalling 45 = .ok (.iconst 0, 1) := by decide +kernel
theorem d_Un_addFalling_46 : decode c_Un_addFalling 46 = .ok (.iconst 0, 1) := by decide +kernel
theorem d_Un_addFalling_47 : decode c_Un_addFalling 47 = .ok (.invokevirtual 179, 3) := by decide +kernel
theorem d_Un_addFalling_50 : decode c_Un_addFalling 50 = .ok (.pop, 1) := by decide +kernel
theorem d_Un_addFalling_51 : decode c_Un_addFalling 51 = .ok (.return_, 1) := by decide +kernel
set_option maxRecDepth 20000 in
theorem w_Un_addFalling_0 {X : HX} {ad : Nat → Nat} {I : HI} {J : HJ} {N : HN} {r : HI} {a0 : Nat} {p1 : Int32} (C : Cx X c_Un_addFalling RX9 4 none rm_Un_addFalling) (ha0 : gk Tc nC a0 (0, 9))
    (h : Un_addFalling_0 J N a0 p1 I = some r) : G Tc X ad nC 0 0 I J N (gE X Tc ad nC (r, J, N, fun _ => none)) 0 4 [(0, .ref (ad a0)), (1, .int p1)] [] := by
  refine g_aload_n (pc := 0) C d_Un_addFalling_0 rfl 0 rfl ?_
  obtain ⟨b1, hnb1, hb1, h⟩ := o_rq h
  refine g_get (pc := 1) (k := 4) (v := va_rf ((N a0 4).map ad)) C gcX9 inX9 (by decide) fl_Un_38 ha0 rfl d_Un_addFalling_1 ?_
  refine g_top (g_rf hnb1) ?_
  refine g_getN (pc := 4) (k := 1) (v := .long (J b1 1)) C gcX2 inX2 (by decide) fl_Un_174 hb1 rfl d_Un_addFalling_4 ?_
  refine g_l2i (pc := 7) C d_Un_addFalling_7 ?_
  obtain ⟨v2, ev2, h⟩ := o_bd h
  refine g_topi ev2 ?_
  refine g_istore_n (pc := 8) (lv' := [(2, .int v2), (0, .ref (ad a0)), (1, .int p1)]) C d_Un_addFalling_8 rfl (by decide) rfl ?_
  refine g_aload_n (pc := 9) C d_Un_addFalling_9 rfl 1 rfl ?_
  obtain ⟨b3, hnb3, hb3, h⟩ := o_rq h
  refine g_get (pc := 10) (k := 4) (v := va_rf ((N a0 4).map ad)) C gcX9 inX9 (by decide) fl_Un_38 ha0 rfl d_Un_addFalling_10 ?_
  refine g_top (g_rf hnb3) ?_
  refine g_getN (pc := 13) (k := 0) (v := .long (J b3 0)) C gcX2 inX2 (by decide) fl_Un_88 hb3 rfl d_Un_addFalling_13 ?_
  refine g_l2i (pc := 16) C d_Un_addFalling_16 ?_
  obtain ⟨v4, ev4, h⟩ := o_bd h
  refine g_topi ev4 ?_
  refine g_istore_n (pc := 17) (lv' := [(3, .int v4), (2, .int v2), (0, .ref (ad a0)), (1, .int p1)]) C d_Un_addFalling_17 rfl (by decide) rfl ?_
  refine g_iload_n (pc := 18) C d_Un_addFalling_18 rfl 3 rfl ?_
  refine g_if_ne (pc := 19) C 38 d_Un_addFalling_19 rfl (fun e5 => ?_) (fun e5 => ?_)
  · have h := o_neg e5 h
    refine g_aload_n (pc := 38) C d_Un_addFalling_38 rfl 2 rfl ?_
    obtain ⟨b6, hnb6, hb6, h⟩ := o_rq h
    refine g_get (pc := 39) (k := 0) (v := va_rf ((N a0 0).map ad)) C gcX9 inX9 (by decide) fl_Un_12 ha0 rfl d_Un_addFalling_39 ?_
    refine g_top (g_rf hnb6) ?_
    refine g_iload_n (pc := 42) C d_Un_addFalling_42 rfl 3 rfl ?_
    refine g_iload_n (pc := 43) C d_Un_addFalling_43 rfl 1 rfl ?_
    refine g_iload_n (pc := 44) C d_Un_addFalling_44 rfl 0 rfl ?_
    refine g_iconst (pc := 45) C (0 : Int32) d_Un_addFalling_45 (by decide) ?_
    refine g_iconst (pc := 46) C (0 : Int32) d_Un_addFalling_46 (by decide) ?_
    obtain ⟨I7, r8, hc9, h⟩ := o_bn2 h
    refine g_V (pc := 47) (rest := []) C (k_La_add (xl X) hb6 hc9) sm_La_add ml_Un_179 im_La_add se_La_add gcX3 rfl hb6 ⟨rfl, rfl, Nat.le_of_ble_eq_true rfl, Nat.le_of_ble_eq_true rfl⟩ ⟨Nat.zero_le _, Nat.zero_le _⟩ rfl rfl (Nat.le_of_ble_eq_true rfl) d_Un_addFalling_47 [.int r8] rfl ?_
    refine g_pop (pc := 50) C d_Un_addFalling_50 rfl ?_
    obtain rfl := o_ret h
    exact g_vret (pc := 51) C d_Un_addFalling_51
  · have h := o_pos e5 h
    refine g_aload_n (pc := 22) C d_Un_addFalling_22 rfl 2 rfl ?_
    obtain ⟨b10, hnb10, hb10, h⟩ := o_rq h
    refine g_get (pc := 23) (k := 0) (v := va_rf ((N a0 0).map ad)) C gcX9 inX9 (by decide) fl_Un_12 ha0 rfl d_Un_addFalling_23 ?_
    refine g_top (g_rf hnb10) ?_
    refine g_iload_n (pc := 26) C d_Un_addFalling_26 rfl 3 rfl ?_
    refine g_iconst (pc := 27) C (0 : Int32) d_Un_addFalling_27 (by decide) ?_
    refine g_iconst (pc := 28) C (0 : Int32) d_Un_addFalling_28 (by decide) ?_
    refine g_iload_n (pc := 29) C d_Un_addFalling_29 rfl 1 rfl ?_
    refine g_iload_n (pc := 30) C d_Un_addFalling_30 rfl 0 rfl ?_
    obtain ⟨I11, r12, hc13, h⟩ := o_bn2 h
    refine g_V (pc := 31) (rest := []) C (k_La_add (xl X) hb10 hc13) sm_La_add ml_Un_179 im_La_add se_La_add gcX3 rfl hb10 ⟨rfl, rfl, Nat.le_of_ble_eq_true rfl, Nat.le_of_ble_eq_true rfl⟩ ⟨Nat.zero_le _, Nat.zero_le _⟩ rfl rfl (Nat.le_of_ble_eq_true rfl) d_Un_addFalling_31 [.int r12] rfl ?_
    refine g_pop (pc := 34) C d_Un_addFalling_34 rfl ?_
    refine g_goto (pc := 35) C 51 d_Un_addFalling_35 rfl ?_
    obtain rfl := o_ret h
    exact g_vret (pc := 51) C d_Un_addFalling_51
set_option maxRecDepth 20000 in
theorem k_Un_addFalling (l : Launch) {I : HI} {J : HJ} {N : HN} {a0 : Nat} {p1 : Int32} {r : HI} (ha0 : gk Tc nC a0 (0, 9)) (h : Un_addFalling J N a0 p1 I = some r) : gM l y_Un_addFalling c_Un_addFalling 4 none rm_Un_addFalling Tc nC I J N (fun ad => [.ref (ad a0), .int p1]) (r, J, N, fun _ => none) :=
  g_meth (lv := fun ad => [(0, .ref (ad a0)), (1, .int p1)]) (by decide) (fun _ => Nat.le_of_ble_eq_true rfl) (fun _ => rfl) (fun X ad C => g_lv [0, 1] rfl (w_Un_addFalling_0 C ha0 h))
theorem d_Un_divideOn_0 : decode c_Un_divideOn 0 = .ok (.aload_n 0, 1) := by decide +kernel
theorem d_Un_divideOn_1 : decode c_Un_divideOn 1 = .ok (.aload_n 1, 1) := by decide +kernel
theorem d_Un_divideOn_2 : decode c_Un_divideOn 2 = .ok (.invokevirtual 59, 3) := by decide +kernel
theorem d_Un_divideOn_5 : decode c_Un_divideOn 5 = .ok (.iload_n 2, 1) := by decide +kernel
theorem d_Un_divideOn_6 : decode c_Un_divideOn 6 = .ok (.ifCond .eq 7, 3) := by decide +kernel
theorem d_Un_divideOn_9 : decode c_Un_divideOn 9 = .ok (.iconst 1, 1) := by decide +kernel
theorem d_Un_divideOn_10 : decode c_Un_divideOn 10 = .ok (.goto 4, 3) := by decide +kernel
theorem d_Un_divideOn_13 : decode c_Un_divideOn 13 = .ok (.iconst (-1), 1) := by decide +kernel
theorem d_Un_divideOn_14 : decode c_Un_divideOn 14 = .ok (.istore_n 3, 1) := by decide +kernel
theorem d_Un_divideOn_15 : decode c_Un_divideOn 15 = .ok (.iconst 0, 1) := by decide +kernel
theorem d_Un_divideOn_16 : decode c_Un_divideOn 16 = .ok (.istore 4, 2) := by decide +kernel
theorem d_Un_divideOn_18 : decode c_Un_divideOn 18 = .ok (.aload_n 0, 1) := by decide +kernel
theorem d_Un_divideOn_19 : decode c_Un_divideOn 19 = .ok (.getfield 21, 3) := by decide +kernel
theorem d_Un_divideOn_22 : decode c_Un_divideOn 22 = .ok (.getfield 63, 3) := by decide +kernel
theorem d_Un_divideOn_25 : decode c_Un_divideOn 25 = .ok (.iload_n 2, 1) := by decide +kernel
theorem d_Un_divideOn_26 : decode c_Un_divideOn 26 = .ok (.invokestatic 66, 3) := by decide +kernel
theorem d_Un_divideOn_29 : decode c_Un_divideOn 29 = .ok (.aload_n 0, 1) := by decide +kernel
theorem d_Un_divideOn_30 : decode c_Un_divideOn 30 = .ok (.getfield 21, 3) := by decide +kernel
theorem d_Un_divideOn_33 : decode c_Un_divideOn 33 = .ok (.getfield 70, 3) := by decide +kernel
theorem d_Un_divideOn_36 : decode c_Un_divideOn 36 = .ok (.iload_n 2, 1) := by decide +kernel
theorem d_Un_divideOn_37 : decode c_Un_divideOn 37 = .ok (.invokestatic 66, 3) := by decide +kernel
theorem d_Un_divideOn_40 : decode c_Un_divideOn 40 = .ok (.if_icmp .le 7, 3) := by decide +kernel
theorem d_Un_divideOn_43 : decode c_Un_divideOn 43 = .ok (.iconst 1, 1) := by decide +kernel
theorem d_Un_divideOn_44 : decode c_Un_divideOn 44 = .ok (.goto 4, 3) := by decide +kernel
theorem d_Un_divideOn_47 : decode c_Un_divideOn 47 = .ok (.iconst 0, 1) := by decide +kernel
theorem d_Un_divideOn_48 : decode c_Un_divideOn 48 = .ok (.iload_n 2, 1) := by decide +kernel
theorem d_Un_divideOn_49 : decode c_Un_divideOn 49 = .ok (.if_icmp .eq 13, 3) := by decide +kernel
theorem d_Un_divideOn_52 : decode c_Un_divideOn 52 = .ok (.aload_n 0, 1) := by decide +kernel
theorem d_Un_divideOn_53 : decode c_Un_divideOn 53 = .ok (.getfield 21, 3) := by decide +kernel
theorem d_Un_divideOn_56 : decode c_Un_divideOn 56 = .ok (.invokevirtual 73, 3) := by decide +kernel
theorem d_Un_divideOn_59 : decode c_Un_divideOn 59 = .ok (.iconst 1, 1) := by decide +kernel
theorem d_Un_divideOn_60 : decode c_Un_divideOn 60 = .ok (.istore 4, 2) := by decide +kernel
theorem d_Un_divideOn_62 : decode c_Un_divideOn 62 = .ok (.iconst 0, 1) := by decide +kernel
theorem d_Un_divideOn_63 : decode c_Un_divideOn 63 = .ok (.istore 5, 2) := by decide +kernel
theorem d_Un_divideOn_65 : decode c_Un_divideOn 65 = .ok (.iload 5, 2) := by decide +kernel
theorem d_Un_divideOn_67 : decode c_Un_divideOn 67 = .ok (.bipush 6, 2) := by decide +kernel
theorem d_Un_divideOn_69 : decode c_Un_divideOn 69 = .ok (.if_icmp .gt 162, 3) := by decide +kernel
theorem d_Un_divideOn_72 : decode c_Un_divideOn 72 = .ok (.aload_n 0, 1) := by decide +kernel
theorem d_Un_divideOn_73 : decode c_Un_divideOn 73 = .ok (.getfield 21, 3) := by decide +kernel
theorem d_Un_divideOn_76 : decode c_Un_divideOn 76 = .ok (.getfield 70, 3) := by decide +kernel
theorem d_Un_divideOn_79 : decode c_Un_divideOn 79 = .ok (.invokevirtual 76, 3) := by decide +kernel
theorem d_Un_divideOn_82 : decode c_Un_divideOn 82 = .ok (.iconst (-1), 1) := by decide +kernel
theorem d_Un_divideOn_83 : decode c_Un_divideOn 83 = .ok (.if_icmp .eq 148, 3) := by decide +kernel
theorem d_Un_divideOn_86 : decode c_Un_divideOn 86 = .ok (.aload_n 0, 1) := by decide +kernel
theorem d_Un_divideOn_87 : decode c_Un_divideOn 87 = .ok (.getfield 21, 3) := by decide +kernel
theorem d_Un_divideOn_90 : decode c_Un_divideOn 90 = .ok (.getfield 70, 3) := by decide +kernel
theorem d_Un_divideOn_93 : decode c_Un_divideOn 93 = .ok (.iload_n 2, 1) := by decide +kernel
theorem d_Un_divideOn_94 : decode c_Un_divideOn 94 = .ok (.invokestatic 66, 3) := by decide +kernel
theorem d_Un_divideOn_97 : decode c_Un_divideOn 97 = .ok (.istore 6, 2) := by decide +kernel
theorem d_Un_divideOn_99 : decode c_Un_divideOn 99 = .ok (.aload_n 0, 1) := by decide +kernel
theorem d_Un_divideOn_100 : decode c_Un_divideOn 100 = .ok (.getfield 38, 3) := by decide +kernel
theorem d_Un_divideOn_103 : decode c_Un_divideOn 103 = .ok (.aload_n 0, 1) := by decide +kernel
theorem d_Un_divideOn_104 : decode c_Un_divideOn 104 = .ok (.getfield 21, 3) := by decide +kernel
theorem d_Un_divideOn_107 : decode c_Un_divideOn 107 = .ok (.getfield 63, 3) := by decide +kernel
theorem d_Un_divideOn_110 : decode c_Un_divideOn 110 = .ok (.iload 6, 2) := by decide +kernel
theorem d_Un_divideOn_112 : decode c_Un_divideOn 112 = .ok (.iload_n 3, 1) := by decide +kernel
theorem d_Un_divideOn_113 : decode c_Un_divideOn 113 = .ok (.iadd, 1) := by decide +kernel
theorem d_Un_divideOn_114 : decode c_Un_divideOn 114 = .ok (.invokevirtual 80, 3) := by decide +kernel
theorem d_Un_divideOn_117 : decode c_Un_divideOn 117 = .ok (.aload_n 0, 1) := by decide +kernel
theorem d_Un_divideOn_118 : decode c_Un_divideOn 118 = .ok (.getfield 21, 3) := by decide +kernel
theorem d_Un_divideOn_121 : decode c_Un_divideOn 121 = .ok (.getfield 70, 3) := by decide +kernel
theorem d_Un_divideOn_124 : decode c_Un_divideOn 124 = .ok (.iload 6, 2) := by decide +kernel
theorem d_Un_divideOn_126 : decode c_Un_divideOn 126 = .ok (.invokevirtual 80, 3) := by decide +kernel
theorem d_Un_divideOn_129 : decode c_Un_divideOn 129 = .ok (.invokevirtual 84, 3) := by decide +kernel
theorem d_Un_divideOn_132 : decode c_Un_divideOn 132 = .ok (.aload_n 0, 1) := by decide +kernel
theorem d_Un_divideOn_133 : decode c_Un_divideOn 133 = .ok (.getfield 21, 3) := by decide +kernel
theorem d_Un_divideOn_136 : decode c_Un_divideOn 136 = .ok (.getfield 63, 3) := by decide +kernel
theorem d_Un_divideOn_139 : decode c_Un_divideOn 139 = .ok (.iload_n 2, 1) := by decide +kernel
theorem d_Un_divideOn_140 : decode c_Un_divideOn 140 = .ok (.invokestatic 66, 3) := by decide +kernel
theorem d_Un_divideOn_143 : decode c_Un_divideOn 143 = .ok (.iload 6, 2) := by decide +kernel
theorem d_Un_divideOn_145 : decode c_Un_divideOn 145 = .ok (.iload_n 3, 1) := by decide +kernel
theorem d_Un_divideOn_146 : decode c_Un_divideOn 146 = .ok (.iadd, 1) := by decide +kernel
theorem d_Un_divideOn_147 : decode c_Un_divideOn 147 = .ok (.if_icmp .ne 15, 3) := by decide +kernel
theorem d_Un_divideOn_150 : decode c_Un_divideOn 150 = .ok (.aload_n 0, 1) := by decide +kernel
theorem d_Un_divideOn_151 : decode c_Un_divideOn 151 = .ok (.getfield 38, 3) := by decide +kernel
theorem d_Un_divideOn_154 : decode c_Un_divideOn 154 = .ok (.getfield 88, 3) := by decide +kernel
theorem d_Un_divideOn_157 : decode c_Un_divideOn 157 = .ok (.lconst 0, 1) := by decide +kernel
theorem d_Un_divideOn_158 : decode c_Un_divideOn 158 = .ok (.lcmp, 1) := by decide +kernel
theorem d_Un_divideOn_159 : decode c_Un_divideOn 159 = .ok (.ifCond .gt 9, 3) := by decide +kernel
theorem d_Un_divideOn_162 : decode c_Un_divideOn 162 = .ok (.iload 5, 2) := by decide +kernel
theorem d_Un_divideOn_164 : decode c_Un_divideOn 164 = .ok (.invokestatic 91, 3) := by decide +kernel
theorem d_Un_divideOn_167 : decode c_Un_divideOn 167 = .ok (.ireturn, 1) := by decide +kernel
theorem d_Un_divideOn_168 : decode c_Un_divideOn 168 = .ok (.aload_n 0, 1) := by decide +kernel
theorem d_Un_divideOn_169 : decode c_Un_divideOn 169 = .ok (.getfield 38, 3) := by decide +kernel
theorem d_Un_divideOn_172 : decode c_Un_divideOn 172 = .ok (.invokevirtual 95, 3) := by decide +kernel
theorem d_Un_divideOn_175 : decode c_Un_divideOn 175 = .ok (.ifCond .ne 6, 3) := by decide +kernel
theorem d_Un_divideOn_178 : decode c_Un_divideOn 178 = .ok (.bipush (-5), 2) := by decide +kernel
theorem d_Un_divideOn_180 : decode c_Un_divideOn 180 = .ok (.ireturn, 1) := by decide +kernel
theorem d_Un_divideOn_181 : decode c_Un_divideOn 181 = .ok (.iload_n 2, 1) := by decide +kernel
theorem d_Un_divideOn_182 : decode c_Un_divideOn 182 = .ok (.ifCond .eq 12, 3) := by decide +kernel
theorem d_Un_divideOn_185 : decode c_Un_divideOn 185 = .ok (.aload_n 0, 1) := by decide +kernel
theorem d_Un_divideOn_186 : decode c_Un_divideOn 186 = .ok (.iload 4, 2) := by decide +kernel
theorem d_Un_divideOn_188 : decode c_Un_divideOn 188 = .ok (.invokevirtual 99, 3) := by decide +kernel
theorem d_Un_divideOn_191 : decode c_Un_divideOn 191 = .ok (.goto 9, 3) := by decide +kernel
theorem d_Un_divideOn_194 : decode c_Un_divideOn 194 = .ok (.aload_n 0, 1) := by decide +kernel
theorem d_Un_divideOn_195 : decode c_Un_divideOn 195 = .ok (.iload 4, 2) := by decide +kernel
theorem d_Un_divideOn_197 : decode c_Un_divideOn 197 = .ok (.invokevirtual 103, 3) := by decide +kernel
theorem d_Un_divideOn_200 : decode c_Un_divideOn 200 = .ok (.aload_n 0, 1) := by decide +kernel
theorem d_Un_divideOn_201 : decode c_Un_divideOn 201 = .ok (.getfield 21, 3) := by decide +kernel
theorem d_Un_divideOn_204 : decode c_Un_divideOn 204 = .ok (.aload_n 0, 1) := by decide +kernel
theorem d_Un_divideOn_205 : decode c_Un_divideOn 205 = .ok (.getfield 38, 3) := by decide +kernel
theorem d_Un_divideOn_208 : decode c_Un_divideOn 208 = .ok (.iload_n 3, 1) := by decide +kernel
theorem d_Un_divideOn_209 : decode c_Un_divideOn 209 = .ok (.invokevirtual 106, 3) := by decide +kernel
theorem d_Un_divideOn_212 : decode c_Un_divideOn 212 = .ok (.aload_n 0, 1) := by decide +kernel
theorem d_Un_divideOn_213 : decode c_Un_divideOn 213 = .ok (.getfield 21, 3) := by decide +kernel
theorem d_Un_divideOn_216 : decode c_Un_divideOn 216 = .ok (.invokevirtual 110, 3) := by decide +kernel
theorem d_Un_divideOn_219 : decode c_Un_divideOn 219 = .ok (.iconst 1, 1) := by decide +kernel
theorem d_Un_divideOn_220 : decode c_Un_divideOn 220 = .ok (.iload 4, 2) := by decide +kernel
theorem d_Un_divideOn_222 : decode c_Un_divideOn 222 = .ok (.isub, 1) := by decide +kernel
theorem d_Un_divideOn_223 : decode c_Un_divideOn 223 = .ok (.istore 4, 2) := by decide +kernel
theorem d_Un_divideOn_225 : decode c_Un_divideOn 225 = .ok (.iinc 5 1, 3) := by decide +kernel
theorem d_Un_divideOn_228 : decode c_Un_divideOn 228 = .ok (.goto (-163), 3) := by decide +kernel
theorem d_Un_divideOn_231 : decode c_Un_divideOn 231 = .ok (.aload_n 0, 1) := by decide +kernel
theorem d_Un_divideOn_232 : decode c_Un_divideOn 232 = .ok (.getfield 12, 3) := by decide +kernel
theorem d_Un_divideOn_235 : decode c_Un_divideOn 235 = .ok (.invokevirtual 113, 3) := by decide +kernel
theorem d_Un_divideOn_238 : decode c_Un_divideOn 238 = .ok (.ireturn, 1) := by decide +kernel
set_option maxRecDepth 20000 in
theorem w_Un_divideOn_231 {X : HX} {ad : Nat → Nat} {I : HI} {J : HJ} {N : HN} {r : HI × HJ × HN × Int32} {a0 : Nat} {a1 : Nat} {p2 : Int32} (C : Cx X c_Un_divideOn RX9 7 (some .int) rm_Un_divideOn) (ha0 : gk Tc nC a0 (0, 9)) (ha1 : gk Tc nC a1 (0, 5))
    (h : Un_divideOn_231 a0 a1 p2 I J N = some r) : G Tc X ad nC 0 0 I J N (gE X Tc ad nC (r.1, r.2.1, r.2.2.1, fun _ => some (.int r.2.2.2))) 231 7 [(0, .ref (ad a0))] [] := by
  refine g_aload_n (pc := 231) C d_Un_divideOn_231 rfl 0 rfl ?_
  obtain ⟨b1, hnb1, hb1, h⟩ := o_rq h
  refine g_get (pc := 232) (k := 0) (v := va_rf ((N a0 0).map ad)) C gcX9 inX9 (by decide) fl_Un_12 ha0 rfl d_Un_divideOn_232 ?_
  refine g_top (g_rf hnb1) ?_
  obtain ⟨r2, hc3, h⟩ := o_bn1 h
  refine g_V (pc := 235) (rest := []) C (k_La_valueCount (xl X) hb1 hc3) sm_La_valueCount ml_Un_113 im_La_valueCount se_La_valueCount gcX3 rfl hb1 ⟨rfl, rfl, Nat.le_of_ble_eq_true rfl, Nat.le_of_ble_eq_true rfl⟩ ⟨Nat.zero_le _, Nat.zero_le _⟩ rfl rfl (Nat.le_of_ble_eq_true rfl) d_Un_divideOn_235 [.int r2] rfl ?_
  obtain rfl := o_ret h
  exact g_iret (pc := 238) C d_Un_divideOn_238
set_option maxRecDepth 20000 in
theorem w_Un_divideOn_200 {X : HX} {ad : Nat → Nat} {I : HI} {J : HJ} {N : HN} {r : HI × HJ × HN × Int32} {k65 : HI → HJ → HN → Int32 → Int32 → Int32 → Option (HI × HJ × HN × Int32)} {a0 : Nat} {a1 : Nat} {p2 : Int32} {x3 : Int32} {x4 : Int32} {x5 : Int32} (C : Cx X c_Un_divideOn RX9 7 (some .int) rm_Un_divideOn) (ha0 : gk Tc nC a0 (0, 9)) (ha1 : gk Tc nC a1 (0, 5))
    (hk65 : ∀ (I : HI) (J : HJ) (N : HN) (x3 : Int32) (x4 : Int32) (x5 : Int32), k65 I J N x3 x4 x5 = some r → G Tc X ad nC 0 0 I J N (gE X Tc ad nC (r.1, r.2.1, r.2.2.1, fun _ => some (.int r.2.2.2))) 65 7 [(0, .ref (ad a0)), (2, .int p2), (3, .int x3), (4, .int x4), (5, .int x5)] [])
    (h : Un_divideOn_200 a0 a1 p2 k65 I J N x3 x4 x5 = some r) : G Tc X ad nC 0 0 I J N (gE X Tc ad nC (r.1, r.2.1, r.2.2.1, fun _ => some (.int r.2.2.2))) 200 7 [(0, .ref (ad a0)), (2, .int p2), (3, .int x3), (4, .int x4), (5, .int x5)] [] := by
  refine g_aload_n (pc := 200) C d_Un_divideOn_200 rfl 0 rfl ?_
  obtain ⟨b1, hnb1, hb1, h⟩ := o_rq h
  refine g_get (pc := 201) (k := 1) (v := va_rf ((N a0 1).map ad)) C gcX9 inX9 (by decide) fl_Un_21 ha0 rfl d_Un_divideOn_201 ?_
  refine g_top (g_rf hnb1) ?_
  refine g_aload_n (pc := 204) C d_Un_divideOn_204 rfl 0 rfl ?_
  obtain ⟨b2, hnb2, hb2, h⟩ := o_rq h
  refine g_get (pc := 205) (k := 4) (v := va_rf ((N a0 4).map ad)) C gcX9 inX9 (by decide) fl_Un_38 ha0 rfl d_Un_divideOn_205 ?_
  refine g_top (g_rf hnb2) ?_
  refine g_iload_n (pc := 208) C d_Un_divideOn_208 rfl 2 rfl ?_
  obtain ⟨J3, N4, hc5, h⟩ := o_bn2 h
  refine g_V (pc := 209) (rest := []) C (k_Pa_goOn (xl X) hb1 hb2 hc5) sm_Pa_goOn ml_Un_106 im_Pa_goOn se_Pa_goOn gcX5 rfl hb1 ⟨rfl, rfl, Nat.le_of_ble_eq_true rfl, Nat.le_of_ble_eq_true rfl⟩ ⟨Nat.zero_le _, Nat.zero_le _⟩ rfl rfl (Nat.le_of_ble_eq_true rfl) d_Un_divideOn_209 [] rfl ?_
  refine g_aload_n (pc := 212) C d_Un_divideOn_212 rfl 0 rfl ?_
  obtain ⟨b6, hnb6, hb6, h⟩ := o_rq h
  refine g_get (pc := 213) (k := 1) (v := va_rf ((N4 a0 1).map ad)) C gcX9 inX9 (by decide) fl_Un_21 ha0 rfl d_Un_divideOn_213 ?_
  refine g_top (g_rf hnb6) ?_
  obtain ⟨J7, hc8, h⟩ := o_bn1 h
  refine g_V (pc := 216) (rest := []) C (k_Pa_becomeAsPair (xl X) hb6 hc8) sm_Pa_becomeAsPair ml_Un_110 im_Pa_becomeAsPair se_Pa_becomeAsPair gcX5 rfl hb6 ⟨rfl, rfl, Nat.le_of_ble_eq_true rfl, Nat.le_of_ble_eq_true rfl⟩ ⟨Nat.zero_le _, Nat.zero_le _⟩ rfl rfl (Nat.le_of_ble_eq_true rfl) d_Un_divideOn_216 [] rfl ?_
  refine g_iconst (pc := 219) C (1 : Int32) d_Un_divideOn_219 (by decide) ?_
  refine g_iload (pc := 220) C d_Un_divideOn_220 3 rfl ?_
  refine g_isub (pc := 222) C d_Un_divideOn_222 ?_
  obtain ⟨v9, ev9, h⟩ := o_bd h
  refine g_topi ev9 ?_
  refine g_istore (pc := 223) (lv' := [(4, .int v9), (0, .ref (ad a0)), (2, .int p2), (3, .int x3), (5, .int x5)]) C d_Un_divideOn_223 (by decide) rfl ?_
  refine g_iinc (pc := 225) (q := 4) (lv' := [(5, .int (x5 + 1)), (4, .int v9), (0, .ref (ad a0)), (2, .int p2), (3, .int x3)]) C d_Un_divideOn_225 rfl rfl (by decide) rfl ?_
  refine g_goto (pc := 228) C 65 d_Un_divideOn_228 rfl ?_
  refine g_lv [2, 3, 4, 1, 0] rfl ?_
  exact hk65 _ _ _ _ _ _ h
set_option maxRecDepth 20000 in
theorem w_Un_divideOn_162 {X : HX} {ad : Nat → Nat} {I : HI} {J : HJ} {N : HN} {r : HI × HJ × HN × Int32} {a0 : Nat} {a1 : Nat} {p2 : Int32} {x5 : Int32} (C : Cx X c_Un_divideOn RX9 7 (some .int) rm_Un_divideOn) (ha0 : gk Tc nC a0 (0, 9)) (ha1 : gk Tc nC a1 (0, 5))
    (h : Un_divideOn_162 a0 a1 p2 I J N x5 = some r) : G Tc X ad nC 0 0 I J N (gE X Tc ad nC (r.1, r.2.1, r.2.2.1, fun _ => some (.int r.2.2.2))) 162 7 [(5, .int x5)] [] := by
  refine g_iload (pc := 162) C d_Un_divideOn_162 0 rfl ?_
  obtain ⟨r1, hc2, h⟩ := o_bn1 h
  refine g_S (pc := 164) (rest := []) C (k_Un_unlawful (xl X)  hc2) sm_Un_unlawful ml_Un_91 st_Un_unlawful ⟨rfl, rfl, Nat.le_of_ble_eq_true rfl, Nat.le_of_ble_eq_true rfl⟩ ⟨Nat.zero_le _, Nat.zero_le _⟩ rfl rfl (Nat.le_of_ble_eq_true rfl) d_Un_divideOn_164 [.int r1] rfl ?_
  obtain rfl := o_ret h
  exact g_iret (pc := 167) C d_Un_divideOn_167
set_option maxRecDepth 20000 in
theorem w_Un_divideOn_65b {X : HX} {ad : Nat → Nat} {I : HI} {J : HJ} {N : HN} {r : HI × HJ × HN × Int32} {k65 : HI → HJ → HN → Int32 → Int32 → Int32 → Option (HI × HJ × HN × Int32)} {a0 : Nat} {a1 : Nat} {p2 : Int32} {x3 : Int32} {x4 : Int32} {x5 : Int32} (C : Cx X c_Un_divideOn RX9 7 (some .int) rm_Un_divideOn) (ha0 : gk Tc nC a0 (0, 9)) (ha1 : gk Tc nC a1 (0, 5))
    (hk65 : ∀ (I : HI) (J : HJ) (N : HN) (x3 : Int32) (x4 : Int32) (x5 : Int32), k65 I J N x3 x4 x5 = some r → G Tc X ad nC 0 0 I J N (gE X Tc ad nC (r.1, r.2.1, r.2.2.1, fun _ => some (.int r.2.2.2))) 65 7 [(0, .ref (ad a0)), (2, .int p2), (3, .int x3), (4, .int x4), (5, .int x5)] [])
    (h : Un_divideOn_65b a0 a1 p2 k65 I J N x3 x4 x5 = some r) : G Tc X ad nC 0 0 I J N (gE X Tc ad nC (r.1, r.2.1, r.2.2.1, fun _ => some (.int r.2.2.2))) 65 7 [(0, .ref (ad a0)), (2, .int p2), (3, .int x3), (4, .int x4), (5, .int x5)] [] := by
  refine g_iload (pc := 65) C d_Un_divideOn_65 4 rfl ?_
  refine g_bipush (pc := 67) C (6 : Int32) d_Un_divideOn_67 (by decide) ?_
  refine g_icmp_gt (pc := 69) C 231 d_Un_divideOn_69 rfl (fun e1 => ?_) (fun e1 => ?_)
  · have h := o_pos e1 h
    refine g_lv [0] rfl ?_
    exact w_Un_divideOn_231 C ha0 ha1 h
  · have h := o_neg e1 h
    refine g_aload_n (pc := 72) C d_Un_divideOn_72 rfl 0 rfl ?_
    obtain ⟨b2, hnb2, hb2, h⟩ := o_rq h
    refine g_get (pc := 73) (k := 1) (v := va_rf ((N a0 1).map ad)) C gcX9 inX9 (by decide) fl_Un_21 ha0 rfl d_Un_divideOn_73 ?_
    refine g_top (g_rf hnb2) ?_
    obtain ⟨b3, hnb3, hb3, h⟩ := o_rq h
    refine g_getN (pc := 76) (k := 1) (v := va_rf ((N b2 1).map ad)) C gcX5 inX5 (by decide) fl_Un_70 hb2 rfl d_Un_divideOn_76 ?_
    refine g_top (g_rf hnb3) ?_
    obtain ⟨r4, hc5, h⟩ := o_bn1 h
    refine g_V (pc := 79) (rest := []) C (k_Po_degree (xl X) hb3 hc5) sm_Po_degree ml_Un_76 im_Po_degree se_Po_degree gcX6 rfl hb3 ⟨rfl, rfl, Nat.le_of_ble_eq_true rfl, Nat.le_of_ble_eq_true rfl⟩ ⟨Nat.zero_le _, Nat.zero_le _⟩ rfl rfl (Nat.le_of_ble_eq_true rfl) d_Un_divideOn_79 [.int r4] rfl ?_
    refine g_iconst (pc := 82) C (-1 : Int32) d_Un_divideOn_82 (by decide) ?_
    refine g_icmp_eq (pc := 83) C 231 d_Un_divideOn_83 rfl (fun e6 => ?_) (fun e6 => ?_)
    · have h := o_pos e6 h
      refine g_lv [0] rfl ?_
      exact w_Un_divideOn_231 C ha0 ha1 h
    · have h := o_neg e6 h
      refine g_aload_n (pc := 86) C d_Un_divideOn_86 rfl 0 rfl ?_
      obtain ⟨b7, hnb7, hb7, h⟩ := o_rq h
      refine g_get (pc := 87) (k := 1) (v := va_rf ((N a0 1).map ad)) C gcX9 inX9 (by decide) fl_Un_21 ha0 rfl d_Un_divideOn_87 ?_
      refine g_top (g_rf hnb7) ?_
      obtain ⟨b8, hnb8, hb8, h⟩ := o_rq h
      refine g_getN (pc := 90) (k := 1) (v := va_rf ((N b7 1).map ad)) C gcX5 inX5 (by decide) fl_Un_70 hb7 rfl d_Un_divideOn_90 ?_
      refine g_top (g_rf hnb8) ?_
      refine g_iload_n (pc := 93) C d_Un_divideOn_93 rfl 1 rfl ?_
      obtain ⟨r9, hc10, h⟩ := o_bn1 h
      refine g_S (pc := 94) (rest := []) C (k_Un_endOf (xl X) hb8 hc10) sm_Un_endOf ml_Un_66 st_Un_endOf ⟨rfl, rfl, Nat.le_of_ble_eq_true rfl, Nat.le_of_ble_eq_true rfl⟩ ⟨Nat.zero_le _, Nat.zero_le _⟩ rfl rfl (Nat.le_of_ble_eq_true rfl) d_Un_divideOn_94 [.int r9] rfl ?_
      refine g_istore (pc := 97) (lv' := [(6, .int r9), (0, .ref (ad a0)), (2, .int p2), (3, .int x3), (4, .int x4), (5, .int x5)]) C d_Un_divideOn_97 (by decide) rfl ?_
      refine g_aload_n (pc := 99) C d_Un_divideOn_99 rfl 1 rfl ?_
      obtain ⟨b11, hnb11, hb11, h⟩ := o_rq h
      refine g_get (pc := 100) (k := 4) (v := va_rf ((N a0 4).map ad)) C gcX9 inX9 (by decide) fl_Un_38 ha0 rfl d_Un_divideOn_100 ?_
      refine g_top (g_rf hnb11) ?_
      refine g_aload_n (pc := 103) C d_Un_divideOn_103 rfl 1 rfl ?_
      obtain ⟨b12, hnb12, hb12, h⟩ := o_rq h
      refine g_get (pc := 104) (k := 1) (v := va_rf ((N a0 1).map ad)) C gcX9 inX9 (by decide) fl_Un_21 ha0 rfl d_Un_divideOn_104 ?_
      refine g_top (g_rf hnb12) ?_
      obtain ⟨b13, hnb13, hb13, h⟩ := o_rq h
      refine g_getN (pc := 107) (k := 0) (v := va_rf ((N b12 0).map ad)) C gcX5 inX5 (by decide) fl_Un_63 hb12 rfl d_Un_divideOn_107 ?_
      refine g_top (g_rf hnb13) ?_
      refine g_iload (pc := 110) C d_Un_divideOn_110 0 rfl ?_
      refine g_iload_n (pc := 112) C d_Un_divideOn_112 rfl 3 rfl ?_
      refine g_iadd (pc := 113) C d_Un_divideOn_113 ?_
      obtain ⟨r14, hc15, h⟩ := o_bn1 h
      refine g_V (pc := 114) (rest := [.ref (ad b11)]) C (k_Po_at (xl X) hb13 hc15) sm_Po_at ml_Un_80 im_Po_at se_Po_at gcX6 rfl hb13 ⟨rfl, rfl, Nat.le_of_ble_eq_true rfl, Nat.le_of_ble_eq_true rfl⟩ ⟨Nat.zero_le _, Nat.zero_le _⟩ rfl rfl (Nat.le_of_ble_eq_true rfl) d_Un_divideOn_114 [.long r14, .ref (ad b11)] rfl ?_
      refine g_aload_n (pc := 117) C d_Un_divideOn_117 rfl 1 rfl ?_
      obtain ⟨b16, hnb16, hb16, h⟩ := o_rq h
      refine g_get (pc := 118) (k := 1) (v := va_rf ((N a0 1).map ad)) C gcX9 inX9 (by decide) fl_Un_21 ha0 rfl d_Un_divideOn_118 ?_
      refine g_top (g_rf hnb16) ?_
      obtain ⟨b17, hnb17, hb17, h⟩ := o_rq h
      refine g_getN (pc := 121) (k := 1) (v := va_rf ((N b16 1).map ad)) C gcX5 inX5 (by decide) fl_Un_70 hb16 rfl d_Un_divideOn_121 ?_
      refine g_top (g_rf hnb17) ?_
      refine g_iload (pc := 124) C d_Un_divideOn_124 0 rfl ?_
      obtain ⟨r18, hc19, h⟩ := o_bn1 h
      refine g_V (pc := 126) (rest := [.long r14, .ref (ad b11)]) C (k_Po_at (xl X) hb17 hc19) sm_Po_at ml_Un_80 im_Po_at se_Po_at gcX6 rfl hb17 ⟨rfl, rfl, Nat.le_of_ble_eq_true rfl, Nat.le_of_ble_eq_true rfl⟩ ⟨Nat.zero_le _, Nat.zero_le _⟩ rfl rfl (Nat.le_of_ble_eq_true rfl) d_Un_divideOn_126 [.long r18, .long r14, .ref (ad b11)] rfl ?_
      obtain ⟨J20, hc21, h⟩ := o_bn1 h
      refine g_V (pc := 129) (rest := []) C (k_Fr_put (xl X) hb11 hc21) sm_Fr_put ml_Un_84 im_Fr_put se_Fr_put gcX2 rfl hb11 ⟨rfl, rfl, Nat.le_of_ble_eq_true rfl, Nat.le_of_ble_eq_true rfl⟩ ⟨Nat.zero_le _, Nat.zero_le _⟩ rfl rfl (Nat.le_of_ble_eq_true rfl) d_Un_divideOn_129 [] rfl ?_
      refine g_aload_n (pc := 132) C d_Un_divideOn_132 rfl 1 rfl ?_
      obtain ⟨b22, hnb22, hb22, h⟩ := o_rq h
      refine g_get (pc := 133) (k := 1) (v := va_rf ((N a0 1).map ad)) C gcX9 inX9 (by decide) fl_Un_21 ha0 rfl d_Un_divideOn_133 ?_
      refine g_top (g_rf hnb22) ?_
      obtain ⟨b23, hnb23, hb23, h⟩ := o_rq h
      refine g_getN (pc := 136) (k := 0) (v := va_rf ((N b22 0).map ad)) C gcX5 inX5 (by decide) fl_Un_63 hb22 rfl d_Un_divideOn_136 ?_
      refine g_top (g_rf hnb23) ?_
      refine g_iload_n (pc := 139) C d_Un_divideOn_139 rfl 2 rfl ?_
      obtain ⟨r24, hc25, h⟩ := o_bn1 h
      refine g_S (pc := 140) (rest := []) C (k_Un_endOf (xl X) hb23 hc25) sm_Un_endOf ml_Un_66 st_Un_endOf ⟨rfl, rfl, Nat.le_of_ble_eq_true rfl, Nat.le_of_ble_eq_true rfl⟩ ⟨Nat.zero_le _, Nat.zero_le _⟩ rfl rfl (Nat.le_of_ble_eq_true rfl) d_Un_divideOn_140 [.int r24] rfl ?_
      refine g_iload (pc := 143) C d_Un_divideOn_143 0 rfl ?_
      refine g_iload_n (pc := 145) C d_Un_divideOn_145 rfl 3 rfl ?_
      refine g_iadd (pc := 146) C d_Un_divideOn_146 ?_
      refine g_icmp_ne (pc := 147) C 162 d_Un_divideOn_147 rfl (fun e26 => ?_) (fun e26 => ?_)
      · have h := o_neg e26 h
        refine g_lv [5] rfl ?_
        exact w_Un_divideOn_162 C ha0 ha1 h
      · have h := o_pos e26 h
        refine g_aload_n (pc := 150) C d_Un_divideOn_150 rfl 1 rfl ?_
        obtain ⟨b27, hnb27, hb27, h⟩ := o_rq h
        refine g_get (pc := 151) (k := 4) (v := va_rf ((N a0 4).map ad)) C gcX9 inX9 (by decide) fl_Un_38 ha0 rfl d_Un_divideOn_151 ?_
        refine g_top (g_rf hnb27) ?_
        refine g_getN (pc := 154) (k := 0) (v := .long (J20 b27 0)) C gcX2 inX2 (by decide) fl_Un_88 hb27 rfl d_Un_divideOn_154 ?_
        refine g_lconst (pc := 157) C (0 : Int64) d_Un_divideOn_157 (by decide) ?_
        refine g_lcmp_gt (pc := 158) C 168 d_Un_divideOn_158 d_Un_divideOn_159 rfl (fun e28 => ?_) (fun e28 => ?_)
        · have h := o_pos e28 h
          refine g_aload_n (pc := 168) C d_Un_divideOn_168 rfl 1 rfl ?_
          obtain ⟨b29, hnb29, hb29, h⟩ := o_rq h
          refine g_get (pc := 169) (k := 4) (v := va_rf ((N a0 4).map ad)) C gcX9 inX9 (by decide) fl_Un_38 ha0 rfl d_Un_divideOn_169 ?_
          refine g_top (g_rf hnb29) ?_
          obtain ⟨r30, hc31, h⟩ := o_bn1 h
          refine g_V (pc := 172) (rest := []) C (k_Fr_isHandy (xl X) hb29 hc31) sm_Fr_isHandy ml_Un_95 im_Fr_isHandy se_Fr_isHandy gcX2 rfl hb29 ⟨rfl, rfl, Nat.le_of_ble_eq_true rfl, Nat.le_of_ble_eq_true rfl⟩ ⟨Nat.zero_le _, Nat.zero_le _⟩ rfl rfl (Nat.le_of_ble_eq_true rfl) d_Un_divideOn_172 [.int r30] rfl ?_
          refine g_if_ne (pc := 175) C 181 d_Un_divideOn_175 rfl (fun e32 => ?_) (fun e32 => ?_)
          · have h := o_neg e32 h
            refine g_iload_n (pc := 181) C d_Un_divideOn_181 rfl 2 rfl ?_
            refine g_if_eq (pc := 182) C 194 d_Un_divideOn_182 rfl (fun e33 => ?_) (fun e33 => ?_)
            · have h := o_pos e33 h
              refine g_aload_n (pc := 194) C d_Un_divideOn_194 rfl 1 rfl ?_
              refine g_iload (pc := 195) C d_Un_divideOn_195 4 rfl ?_
              obtain ⟨I34, hc35, h⟩ := o_bn1 h
              refine g_V (pc := 197) (rest := []) C (k_Un_addFalling (xl X) ha0 hc35) sm_Un_addFalling ml_Un_103 im_Un_addFalling se_Un_addFalling gcX9 rfl ha0 ⟨rfl, rfl, Nat.le_of_ble_eq_true rfl, Nat.le_of_ble_eq_true rfl⟩ ⟨Nat.zero_le _, Nat.zero_le _⟩ rfl rfl (Nat.le_of_ble_eq_true rfl) d_Un_divideOn_197 [] rfl ?_
              refine g_lv [1, 2, 3, 4, 5] rfl ?_
              exact w_Un_divideOn_200 C ha0 ha1 hk65 h
            · have h := o_neg e33 h
              refine g_aload_n (pc := 185) C d_Un_divideOn_185 rfl 1 rfl ?_
              refine g_iload (pc := 186) C d_Un_divideOn_186 4 rfl ?_
              obtain ⟨I36, hc37, h⟩ := o_bn1 h
              refine g_V (pc := 188) (rest := []) C (k_Un_addRising (xl X) ha0 hc37) sm_Un_addRising ml_Un_99 im_Un_addRising se_Un_addRising gcX9 rfl ha0 ⟨rfl, rfl, Nat.le_of_ble_eq_true rfl, Nat.le_of_ble_eq_true rfl⟩ ⟨Nat.zero_le _, Nat.zero_le _⟩ rfl rfl (Nat.le_of_ble_eq_true rfl) d_Un_divideOn_188 [] rfl ?_
              refine g_goto (pc := 191) C 200 d_Un_divideOn_191 rfl ?_
              refine g_lv [1, 2, 3, 4, 5] rfl ?_
              exact w_Un_divideOn_200 C ha0 ha1 hk65 h
          · have h := o_pos e32 h
            refine g_bipush (pc := 178) C (-5 : Int32) d_Un_divideOn_178 (by decide) ?_
            obtain rfl := o_ret h
            exact g_iret (pc := 180) C d_Un_divideOn_180
        · have h := o_neg e28 h
          refine g_lv [5] rfl ?_
          exact w_Un_divideOn_162 C ha0 ha1 h
set_option maxRecDepth 20000 in
theorem w_Un_divideOn_65 {X : HX} {ad : Nat → Nat} {r : HI × HJ × HN × Int32} {a0 : Nat} {a1 : Nat} {p2 : Int32} (C : Cx X c_Un_divideOn RX9 7 (some .int) rm_Un_divideOn) (ha0 : gk Tc nC a0 (0, 9)) (ha1 : gk Tc nC a1 (0, 5)) : ∀ (n : Nat) (I : HI) (J : HJ) (N : HN) (x3 : Int32) (x4 : Int32) (x5 : Int32), Un_divideOn_65 a0 a1 p2 n I J N x3 x4 x5 = some r → G Tc X ad nC 0 0 I J N (gE X Tc ad nC (r.1, r.2.1, r.2.2.1, fun _ => some (.int r.2.2.2))) 65 7 [(0, .ref (ad a0)), (2, .int p2), (3, .int x3), (4, .int x4), (5, .int x5)] [] := by
  intro n
  induction n with
  | zero => intro I J N x3 x4 x5 h; cases h
  | succ n ih => intro I J N x3 x4 x5 h; exact w_Un_divideOn_65b C ha0 ha1 ih h
set_option maxRecDepth 20000 in
theorem w_Un_divideOn_62 {X : HX} {ad : Nat → Nat} {I : HI} {J : HJ} {N : HN} {r : HI × HJ × HN × Int32} {a0 : Nat} {a1 : Nat} {p2 : Int32} {x3 : Int32} {x4 : Int32} (C : Cx X c_Un_divideOn RX9 7 (some .int) rm_Un_divideOn) (ha0 : gk Tc nC a0 (0, 9)) (ha1 : gk Tc nC a1 (0, 5))
    (h : Un_divideOn_62 a0 a1 p2 I J N x3 x4 = some r) : G Tc X ad nC 0 0 I J N (gE X Tc ad nC (r.1, r.2.1, r.2.2.1, fun _ => some (.int r.2.2.2))) 62 7 [(0, .ref (ad a0)), (2, .int p2), (3, .int x3), (4, .int x4)] [] := by
  refine g_iconst (pc := 62) C (0 : Int32) d_Un_divideOn_62 (by decide) ?_
  refine g_istore (pc := 63) (lv' := [(5, .int (0 : Int32)), (0, .ref (ad a0)), (2, .int p2), (3, .int x3), (4, .int x4)]) C d_Un_divideOn_63 (by decide) rfl ?_
  refine g_lv [1, 2, 3, 4, 0] rfl ?_
  exact w_Un_divideOn_65 C ha0 ha1 _ _ _ _ _ _ _ h
set_option maxRecDepth 20000 in
theorem w_Un_divideOn_48 {X : HX} {ad : Nat → Nat} {I : HI} {J : HJ} {N : HN} {r : HI × HJ × HN × Int32} {a0 : Nat} {a1 : Nat} {p2 : Int32} {x3 : Int32} {x4 : Int32} {s0 : Int32} (C : Cx X c_Un_divideOn RX9 7 (some .int) rm_Un_divideOn) (ha0 : gk Tc nC a0 (0, 9)) (ha1 : gk Tc nC a1 (0, 5))
    (h : Un_divideOn_48 a0 a1 p2 I J N x3 x4 s0 = some r) : G Tc X ad nC 0 0 I J N (gE X Tc ad nC (r.1, r.2.1, r.2.2.1, fun _ => some (.int r.2.2.2))) 48 7 [(0, .ref (ad a0)), (2, .int p2), (3, .int x3), (4, .int x4)] [.int s0] := by
  refine g_iload_n (pc := 48) C d_Un_divideOn_48 rfl 1 rfl ?_
  refine g_icmp_eq (pc := 49) C 62 d_Un_divideOn_49 rfl (fun e1 => ?_) (fun e1 => ?_)
  · have h := o_pos e1 h
    refine g_lv [0, 1, 2, 3] rfl ?_
    exact w_Un_divideOn_62 C ha0 ha1 h
  · have h := o_neg e1 h
    refine g_aload_n (pc := 52) C d_Un_divideOn_52 rfl 0 rfl ?_
    obtain ⟨b2, hnb2, hb2, h⟩ := o_rq h
    refine g_get (pc := 53) (k := 1) (v := va_rf ((N a0 1).map ad)) C gcX9 inX9 (by decide) fl_Un_21 ha0 rfl d_Un_divideOn_53 ?_
    refine g_top (g_rf hnb2) ?_
    obtain ⟨N3, hc4, h⟩ := o_bn1 h
    refine g_V (pc := 56) (rest := []) C (k_Pa_swap (xl X) hb2 hc4) sm_Pa_swap ml_Un_73 im_Pa_swap se_Pa_swap gcX5 rfl hb2 ⟨rfl, rfl, Nat.le_of_ble_eq_true rfl, Nat.le_of_ble_eq_true rfl⟩ ⟨Nat.zero_le _, Nat.zero_le _⟩ rfl rfl (Nat.le_of_ble_eq_true rfl) d_Un_divideOn_56 [] rfl ?_
    refine g_iconst (pc := 59) C (1 : Int32) d_Un_divideOn_59 (by decide) ?_
    refine g_istore (pc := 60) (lv' := [(4, .int (1 : Int32)), (0, .ref (ad a0)), (2, .int p2), (3, .int x3)]) C d_Un_divideOn_60 (by decide) rfl ?_
    refine g_lv [1, 2, 3, 0] rfl ?_
    exact w_Un_divideOn_62 C ha0 ha1 h
set_option maxRecDepth 20000 in
theorem w_Un_divideOn_14 {X : HX} {ad : Nat → Nat} {I : HI} {J : HJ} {N : HN} {r : HI × HJ × HN × Int32} {a0 : Nat} {a1 : Nat} {p2 : Int32} {s0 : Int32} (C : Cx X c_Un_divideOn RX9 7 (some .int) rm_Un_divideOn) (ha0 : gk Tc nC a0 (0, 9)) (ha1 : gk Tc nC a1 (0, 5))
    (h : Un_divideOn_14 a0 a1 p2 I J N s0 = some r) : G Tc X ad nC 0 0 I J N (gE X Tc ad nC (r.1, r.2.1, r.2.2.1, fun _ => some (.int r.2.2.2))) 14 7 [(0, .ref (ad a0)), (2, .int p2)] [.int s0] := by
  refine g_istore_n (pc := 14) (lv' := [(3, .int s0), (0, .ref (ad a0)), (2, .int p2)]) C d_Un_divideOn_14 rfl (by decide) rfl ?_
  refine g_iconst (pc := 15) C (0 : Int32) d_Un_divideOn_15 (by decide) ?_
  refine g_istore (pc := 16) (lv' := [(4, .int (0 : Int32)), (3, .int s0), (0, .ref (ad a0)), (2, .int p2)]) C d_Un_divideOn_16 (by decide) rfl ?_
  refine g_aload_n (pc := 18) C d_Un_divideOn_18 rfl 2 rfl ?_
  obtain ⟨b1, hnb1, hb1, h⟩ := o_rq h
  refine g_get (pc := 19) (k := 1) (v := va_rf ((N a0 1).map ad)) C gcX9 inX9 (by decide) fl_Un_21 ha0 rfl d_Un_divideOn_19 ?_
  refine g_top (g_rf hnb1) ?_
  obtain ⟨b2, hnb2, hb2, h⟩ := o_rq h
  refine g_getN (pc := 22) (k := 0) (v := va_rf ((N b1 0).map ad)) C gcX5 inX5 (by decide) fl_Un_63 hb1 rfl d_Un_divideOn_22 ?_
  refine g_top (g_rf hnb2) ?_
  refine g_iload_n (pc := 25) C d_Un_divideOn_25 rfl 3 rfl ?_
  obtain ⟨r3, hc4, h⟩ := o_bn1 h
  refine g_S (pc := 26) (rest := []) C (k_Un_endOf (xl X) hb2 hc4) sm_Un_endOf ml_Un_66 st_Un_endOf ⟨rfl, rfl, Nat.le_of_ble_eq_true rfl, Nat.le_of_ble_eq_true rfl⟩ ⟨Nat.zero_le _, Nat.zero_le _⟩ rfl rfl (Nat.le_of_ble_eq_true rfl) d_Un_divideOn_26 [.int r3] rfl ?_
  refine g_aload_n (pc := 29) C d_Un_divideOn_29 rfl 2 rfl ?_
  obtain ⟨b5, hnb5, hb5, h⟩ := o_rq h
  refine g_get (pc := 30) (k := 1) (v := va_rf ((N a0 1).map ad)) C gcX9 inX9 (by decide) fl_Un_21 ha0 rfl d_Un_divideOn_30 ?_
  refine g_top (g_rf hnb5) ?_
  obtain ⟨b6, hnb6, hb6, h⟩ := o_rq h
  refine g_getN (pc := 33) (k := 1) (v := va_rf ((N b5 1).map ad)) C gcX5 inX5 (by decide) fl_Un_70 hb5 rfl d_Un_divideOn_33 ?_
  refine g_top (g_rf hnb6) ?_
  refine g_iload_n (pc := 36) C d_Un_divideOn_36 rfl 3 rfl ?_
  obtain ⟨r7, hc8, h⟩ := o_bn1 h
  refine g_S (pc := 37) (rest := [.int r3]) C (k_Un_endOf (xl X) hb6 hc8) sm_Un_endOf ml_Un_66 st_Un_endOf ⟨rfl, rfl, Nat.le_of_ble_eq_true rfl, Nat.le_of_ble_eq_true rfl⟩ ⟨Nat.zero_le _, Nat.zero_le _⟩ rfl rfl (Nat.le_of_ble_eq_true rfl) d_Un_divideOn_37 [.int r7, .int r3] rfl ?_
  refine g_icmp_le (pc := 40) C 47 d_Un_divideOn_40 rfl (fun e9 => ?_) (fun e9 => ?_)
  · have h := o_pos e9 h
    refine g_iconst (pc := 47) C (0 : Int32) d_Un_divideOn_47 (by decide) ?_
    refine g_lv [2, 3, 1, 0] rfl ?_
    exact w_Un_divideOn_48 C ha0 ha1 h
  · have h := o_neg e9 h
    refine g_iconst (pc := 43) C (1 : Int32) d_Un_divideOn_43 (by decide) ?_
    refine g_goto (pc := 44) C 48 d_Un_divideOn_44 rfl ?_
    refine g_lv [2, 3, 1, 0] rfl ?_
    exact w_Un_divideOn_48 C ha0 ha1 h
set_option maxRecDepth 20000 in
theorem w_Un_divideOn_0 {X : HX} {ad : Nat → Nat} {I : HI} {J : HJ} {N : HN} {r : HI × HJ × HN × Int32} {a0 : Nat} {a1 : Nat} {p2 : Int32} (C : Cx X c_Un_divideOn RX9 7 (some .int) rm_Un_divideOn) (ha0 : gk Tc nC a0 (0, 9)) (ha1 : gk Tc nC a1 (0, 5))
    (h : Un_divideOn_0 a0 a1 p2 I J N = some r) : G Tc X ad nC 0 0 I J N (gE X Tc ad nC (r.1, r.2.1, r.2.2.1, fun _ => some (.int r.2.2.2))) 0 7 [(0, .ref (ad a0)), (1, .ref (ad a1)), (2, .int p2)] [] := by
  refine g_aload_n (pc := 0) C d_Un_divideOn_0 rfl 0 rfl ?_
  refine g_aload_n (pc := 1) C d_Un_divideOn_1 rfl 1 rfl ?_
  obtain ⟨I1, J2, hc3, h⟩ := o_bn2 h
  refine g_V (pc := 2) (rest := []) C (k_Un_begin (xl X) ha0 ha1 hc3) sm_Un_begin ml_Un_59 im_Un_begin se_Un_begin gcX9 rfl ha0 ⟨rfl, rfl, Nat.le_of_ble_eq_true rfl, Nat.le_of_ble_eq_true rfl⟩ ⟨Nat.zero_le _, Nat.zero_le _⟩ rfl rfl (Nat.le_of_ble_eq_true rfl) d_Un_divideOn_2 [] rfl ?_
  refine g_iload_n (pc := 5) C d_Un_divideOn_5 rfl 2 rfl ?_
  refine g_if_eq (pc := 6) C 13 d_Un_divideOn_6 rfl (fun e4 => ?_) (fun e4 => ?_)
  · have h := o_pos e4 h
    refine g_iconst (pc := 13) C (-1 : Int32) d_Un_divideOn_13 (by decide) ?_
    refine g_lv [0, 2] rfl ?_
    exact w_Un_divideOn_14 C ha0 ha1 h
  · have h := o_neg e4 h
    refine g_iconst (pc := 9) C (1 : Int32) d_Un_divideOn_9 (by decide) ?_
    refine g_goto (pc := 10) C 14 d_Un_divideOn_10 rfl ?_
    refine g_lv [0, 2] rfl ?_
    exact w_Un_divideOn_14 C ha0 ha1 h
set_option maxRecDepth 20000 in
theorem k_Un_divideOn (l : Launch) {I : HI} {J : HJ} {N : HN} {a0 : Nat} {a1 : Nat} {p2 : Int32} {r : HI × HJ × HN × Int32} (ha0 : gk Tc nC a0 (0, 9)) (ha1 : gk Tc nC a1 (0, 5)) (h : Un_divideOn a0 a1 p2 I J N = some r) : gM l y_Un_divideOn c_Un_divideOn 7 (some .int) rm_Un_divideOn Tc nC I J N (fun ad => [.ref (ad a0), .ref (ad a1), .int p2]) (r.1, r.2.1, r.2.2.1, fun _ => some (.int r.2.2.2)) :=
  g_meth (lv := fun ad => [(0, .ref (ad a0)), (1, .ref (ad a1)), (2, .int p2)]) (by decide) (fun _ => Nat.le_of_ble_eq_true rfl) (fun _ => rfl) (fun X ad C => g_lv [0, 1, 2] rfl (w_Un_divideOn_0 C ha0 ha1 h))
theorem d_Un_loadInX_0 : decode c_Un_loadInX 0 = .ok (.aload_n 0, 1) := by decide +kernel
theorem d_Un_loadInX_1 : decode c_Un_loadInX 1 = .ok (.getfield 21, 3) := by decide +kernel
theorem d_Un_loadInX_4 : decode c_Un_loadInX 4 = .ok (.getfield 63, 3) := by decide +kernel
theorem d_Un_loadInX_7 : decode c_Un_loadInX 7 = .ok (.iconst 0, 1) := by decide +kernel
theorem d_Un_loadInX_8 : decode c_Un_loadInX 8 = .ok (.invokevirtual 141, 3) := by decide +kernel
theorem d_Un_loadInX_11 : decode c_Un_loadInX 11 = .ok (.ifCond .eq 7, 3) := by decide +kernel
theorem d_Un_loadInX_14 : decode c_Un_loadInX 14 = .ok (.iconst 0, 1) := by decide +kernel
theorem d_Un_loadInX_15 : decode c_Un_loadInX 15 = .ok (.goto 4, 3) := by decide +kernel
theorem d_Un_loadInX_18 : decode c_Un_loadInX 18 = .ok (.iconst (-1), 1) := by decide +kernel
theorem d_Un_loadInX_19 : decode c_Un_loadInX 19 = .ok (.istore_n 1, 1) := by decide +kernel
theorem d_Un_loadInX_20 : decode c_Un_loadInX 20 = .ok (.aload_n 0, 1) := by decide +kernel
theorem d_Un_loadInX_21 : decode c_Un_loadInX 21 = .ok (.getfield 25, 3) := by decide +kernel
theorem d_Un_loadInX_24 : decode c_Un_loadInX 24 = .ok (.getfield 63, 3) := by decide +kernel
theorem d_Un_loadInX_27 : decode c_Un_loadInX 27 = .ok (.aload_n 0, 1) := by decide +kernel
theorem d_Un_loadInX_28 : decode c_Un_loadInX 28 = .ok (.getfield 21, 3) := by decide +kernel
theorem d_Un_loadInX_31 : decode c_Un_loadInX 31 = .ok (.getfield 63, 3) := by decide +kernel
theorem d_Un_loadInX_34 : decode c_Un_loadInX 34 = .ok (.iload_n 1, 1) := by decide +kernel
theorem d_Un_loadInX_35 : decode c_Un_loadInX 35 = .ok (.invokevirtual 145, 3) := by decide +kernel
theorem d_Un_loadInX_38 : decode c_Un_loadInX 38 = .ok (.aload_n 0, 1) := by decide +kernel
theorem d_Un_loadInX_39 : decode c_Un_loadInX 39 = .ok (.getfield 25, 3) := by decide +kernel
theorem d_Un_loadInX_42 : decode c_Un_loadInX 42 = .ok (.getfield 70, 3) := by decide +kernel
theorem d_Un_loadInX_45 : decode c_Un_loadInX 45 = .ok (.aload_n 0, 1) := by decide +kernel
theorem d_Un_loadInX_46 : decode c_Un_loadInX 46 = .ok (.getfield 21, 3) := by decide +kernel
theorem d_Un_loadInX_49 : decode c_Un_loadInX 49 = .ok (.getfield 70, 3) := by decide +kernel
theorem d_Un_loadInX_52 : decode c_Un_loadInX 52 = .ok (.iload_n 1, 1) := by decide +kernel
theorem d_Un_loadInX_53 : decode c_Un_loadInX 53 = .ok (.iconst 1, 1) := by decide +kernel
theorem d_Un_loadInX_54 : decode c_Un_loadInX 54 = .ok (.iadd, 1) := by decide +kernel
theorem d_Un_loadInX_55 : decode c_Un_loadInX 55 = .ok (.invokevirtual 145, 3) := by decide +kernel
theorem d_Un_loadInX_58 : decode c_Un_loadInX 58 = .ok (.aload_n 0, 1) := by decide +kernel
theorem d_Un_loadInX_59 : decode c_Un_loadInX 59 = .ok (.getfield 25, 3) := by decide +kernel
theorem d_Un_loadInX_62 : decode c_Un_loadInX 62 = .ok (.getfield 63, 3) := by decide +kernel
theorem d_Un_loadInX_65 : decode c_Un_loadInX 65 = .ok (.invokevirtual 122, 3) := by decide +kernel
theorem d_Un_loadInX_68 : decode c_Un_loadInX 68 = .ok (.aload_n 0, 1) := by decide +kernel
theorem d_Un_loadInX_69 : decode c_Un_loadInX 69 = .ok (.getfield 25, 3) := by decide +kernel
theorem d_Un_loadInX_72 : decode c_Un_loadInX 72 = .ok (.getfield 70, 3) := by decide +kernel
theorem d_Un_loadInX_75 : decode c_Un_loadInX 75 = .ok (.invokevirtual 122, 3) := by decide +kernel
theorem d_Un_loadInX_78 : decode c_Un_loadInX 78 = .ok (.invokestatic 149, 3) := by decide +kernel
theorem d_Un_loadInX_81 : decode c_Un_loadInX 81 = .ok (.istore_n 2, 1) := by decide +kernel
theorem d_Un_loadInX_82 : decode c_Un_loadInX 82 = .ok (.iload_n 2, 1) := by decide +kernel
theorem d_Un_loadInX_83 : decode c_Un_loadInX 83 = .ok (.ifCond .le 49, 3) := by decide +kernel
theorem d_Un_loadInX_86 : decode c_Un_loadInX 86 = .ok (.aload_n 0, 1) := by decide +kernel
theorem d_Un_loadInX_87 : decode c_Un_loadInX 87 = .ok (.getfield 25, 3) := by decide +kernel
theorem d_Un_loadInX_90 : decode c_Un_loadInX 90 = .ok (.getfield 63, 3) := by decide +kernel
theorem d_Un_loadInX_93 : decode c_Un_loadInX 93 = .ok (.aload_n 0, 1) := by decide +kernel
theorem d_Un_loadInX_94 : decode c_Un_loadInX 94 = .ok (.getfield 21, 3) := by decide +kernel
theorem d_Un_loadInX_97 : decode c_Un_loadInX 97 = .ok (.getfield 63, 3) := by decide +kernel
theorem d_Un_loadInX_100 : decode c_Un_loadInX 100 = .ok (.iload_n 1, 1) := by decide +kernel
theorem d_Un_loadInX_101 : decode c_Un_loadInX 101 = .ok (.iconst 2, 1) := by decide +kernel
theorem d_Un_loadInX_102 : decode c_Un_loadInX 102 = .ok (.iload_n 2, 1) := by decide +kernel
theorem d_Un_loadInX_103 : decode c_Un_loadInX 103 = .ok (.imul, 1) := by decide +kernel
theorem d_Un_loadInX_104 : decode c_Un_loadInX 104 = .ok (.iadd, 1) := by decide +kernel
theorem d_Un_loadInX_105 : decode c_Un_loadInX 105 = .ok (.invokevirtual 145, 3) := by decide +kernel
theorem d_Un_loadInX_108 : decode c_Un_loadInX 108 = .ok (.aload_n 0, 1) := by decide +kernel
theorem d_Un_loadInX_109 : decode c_Un_loadInX 109 = .ok (.getfield 25, 3) := by decide +kernel
theorem d_Un_loadInX_112 : decode c_Un_loadInX 112 = .ok (.getfield 70, 3) := by decide +kernel
theorem d_Un_loadInX_115 : decode c_Un_loadInX 115 = .ok (.aload_n 0, 1) := by decide +kernel
theorem d_Un_loadInX_116 : decode c_Un_loadInX 116 = .ok (.getfield 21, 3) := by decide +kernel
theorem d_Un_loadInX_119 : decode c_Un_loadInX 119 = .ok (.getfield 70, 3) := by decide +kernel
theorem d_Un_loadInX_122 : decode c_Un_loadInX 122 = .ok (.iload_n 1, 1) := by decide +kernel
theorem d_Un_loadInX_123 : decode c_Un_loadInX 123 = .ok (.iconst 1, 1) := by decide +kernel
theorem d_Un_loadInX_124 : decode c_Un_loadInX 124 = .ok (.iadd, 1) := by decide +kernel
theorem d_Un_loadInX_125 : decode c_Un_loadInX 125 = .ok (.iconst 2, 1) := by decide +kernel
theorem d_Un_loadInX_126 : decode c_Un_loadInX 126 = .ok (.iload_n 2, 1) := by decide +kernel
theorem d_Un_loadInX_127 : decode c_Un_loadInX 127 = .ok (.imul, 1) := by decide +kernel
theorem d_Un_loadInX_128 : decode c_Un_loadInX 128 = .ok (.iadd, 1) := by decide +kernel
theorem d_Un_loadInX_129 : decode c_Un_loadInX 129 = .ok (.invokevirtual 145, 3) := by decide +kernel
theorem d_Un_loadInX_132 : decode c_Un_loadInX 132 = .ok (.return_, 1) := by decide +kernel
set_option maxRecDepth 20000 in
theorem w_Un_loadInX_19 {X : HX} {ad : Nat → Nat} {I : HI} {J : HJ} {N : HN} {r : HJ} {a0 : Nat} {s0 : Int32} (C : Cx X c_Un_loadInX RX9 3 none rm_Un_loadInX) (ha0 : gk Tc nC a0 (0, 9))
    (h : Un_loadInX_19 N a0 J s0 = some r) : G Tc X ad nC 0 0 I J N (gE X Tc ad nC (I, r, N, fun _ => none)) 19 3 [(0, .ref (ad a0))] [.int s0] := by
  refine g_istore_n (pc := 19) (lv' := [(1, .int s0), (0, .ref (ad a0))]) C d_Un_loadInX_19 rfl (by decide) rfl ?_
  refine g_aload_n (pc := 20) C d_Un_loadInX_20 rfl 1 rfl ?_
  obtain ⟨b1, hnb1, hb1, h⟩ := o_rq h
  refine g_get (pc := 21) (k := 2) (v := va_rf ((N a0 2).map ad)) C gcX9 inX9 (by decide) fl_Un_25 ha0 rfl d_Un_loadInX_21 ?_
  refine g_top (g_rf hnb1) ?_
  obtain ⟨b2, hnb2, hb2, h⟩ := o_rq h
  refine g_getN (pc := 24) (k := 0) (v := va_rf ((N b1 0).map ad)) C gcX5 inX5 (by decide) fl_Un_63 hb1 rfl d_Un_loadInX_24 ?_
  refine g_top (g_rf hnb2) ?_
  refine g_aload_n (pc := 27) C d_Un_loadInX_27 rfl 1 rfl ?_
  obtain ⟨b3, hnb3, hb3, h⟩ := o_rq h
  refine g_get (pc := 28) (k := 1) (v := va_rf ((N a0 1).map ad)) C gcX9 inX9 (by decide) fl_Un_21 ha0 rfl d_Un_loadInX_28 ?_
  refine g_top (g_rf hnb3) ?_
  obtain ⟨b4, hnb4, hb4, h⟩ := o_rq h
  refine g_getN (pc := 31) (k := 0) (v := va_rf ((N b3 0).map ad)) C gcX5 inX5 (by decide) fl_Un_63 hb3 rfl d_Un_loadInX_31 ?_
  refine g_top (g_rf hnb4) ?_
  refine g_iload_n (pc := 34) C d_Un_loadInX_34 rfl 0 rfl ?_
  obtain ⟨J5, hc6, h⟩ := o_bn1 h
  refine g_V (pc := 35) (rest := []) C (k_Po_loadEveryOther (xl X) hb2 hb4 hc6) sm_Po_loadEveryOther ml_Un_145 im_Po_loadEveryOther se_Po_loadEveryOther gcX6 rfl hb2 ⟨rfl, rfl, Nat.le_of_ble_eq_true rfl, Nat.le_of_ble_eq_true rfl⟩ ⟨Nat.zero_le _, Nat.zero_le _⟩ rfl rfl (Nat.le_of_ble_eq_true rfl) d_Un_loadInX_35 [] rfl ?_
  refine g_aload_n (pc := 38) C d_Un_loadInX_38 rfl 1 rfl ?_
  obtain ⟨b7, hnb7, hb7, h⟩ := o_rq h
  refine g_get (pc := 39) (k := 2) (v := va_rf ((N a0 2).map ad)) C gcX9 inX9 (by decide) fl_Un_25 ha0 rfl d_Un_loadInX_39 ?_
  refine g_top (g_rf hnb7) ?_
  obtain ⟨b8, hnb8, hb8, h⟩ := o_rq h
  refine g_getN (pc := 42) (k := 1) (v := va_rf ((N b7 1).map ad)) C gcX5 inX5 (by decide) fl_Un_70 hb7 rfl d_Un_loadInX_42 ?_
  refine g_top (g_rf hnb8) ?_
  refine g_aload_n (pc := 45) C d_Un_loadInX_45 rfl 1 rfl ?_
  obtain ⟨b9, hnb9, hb9, h⟩ := o_rq h
  refine g_get (pc := 46) (k := 1) (v := va_rf ((N a0 1).map ad)) C gcX9 inX9 (by decide) fl_Un_21 ha0 rfl d_Un_loadInX_46 ?_
  refine g_top (g_rf hnb9) ?_
  obtain ⟨b10, hnb10, hb10, h⟩ := o_rq h
  refine g_getN (pc := 49) (k := 1) (v := va_rf ((N b9 1).map ad)) C gcX5 inX5 (by decide) fl_Un_70 hb9 rfl d_Un_loadInX_49 ?_
  refine g_top (g_rf hnb10) ?_
  refine g_iload_n (pc := 52) C d_Un_loadInX_52 rfl 0 rfl ?_
  refine g_iconst (pc := 53) C (1 : Int32) d_Un_loadInX_53 (by decide) ?_
  refine g_iadd (pc := 54) C d_Un_loadInX_54 ?_
  obtain ⟨J11, hc12, h⟩ := o_bn1 h
  refine g_V (pc := 55) (rest := []) C (k_Po_loadEveryOther (xl X) hb8 hb10 hc12) sm_Po_loadEveryOther ml_Un_145 im_Po_loadEveryOther se_Po_loadEveryOther gcX6 rfl hb8 ⟨rfl, rfl, Nat.le_of_ble_eq_true rfl, Nat.le_of_ble_eq_true rfl⟩ ⟨Nat.zero_le _, Nat.zero_le _⟩ rfl rfl (Nat.le_of_ble_eq_true rfl) d_Un_loadInX_55 [] rfl ?_
  refine g_aload_n (pc := 58) C d_Un_loadInX_58 rfl 1 rfl ?_
  obtain ⟨b13, hnb13, hb13, h⟩ := o_rq h
  refine g_get (pc := 59) (k := 2) (v := va_rf ((N a0 2).map ad)) C gcX9 inX9 (by decide) fl_Un_25 ha0 rfl d_Un_loadInX_59 ?_
  refine g_top (g_rf hnb13) ?_
  obtain ⟨b14, hnb14, hb14, h⟩ := o_rq h
  refine g_getN (pc := 62) (k := 0) (v := va_rf ((N b13 0).map ad)) C gcX5 inX5 (by decide) fl_Un_63 hb13 rfl d_Un_loadInX_62 ?_
  refine g_top (g_rf hnb14) ?_
  obtain ⟨r15, hc16, h⟩ := o_bn1 h
  refine g_V (pc := 65) (rest := []) C (k_Po_leastPower (xl X) hb14 hc16) sm_Po_leastPower ml_Un_122 im_Po_leastPower se_Po_leastPower gcX6 rfl hb14 ⟨rfl, rfl, Nat.le_of_ble_eq_true rfl, Nat.le_of_ble_eq_true rfl⟩ ⟨Nat.zero_le _, Nat.zero_le _⟩ rfl rfl (Nat.le_of_ble_eq_true rfl) d_Un_loadInX_65 [.int r15] rfl ?_
  refine g_aload_n (pc := 68) C d_Un_loadInX_68 rfl 1 rfl ?_
  obtain ⟨b17, hnb17, hb17, h⟩ := o_rq h
  refine g_get (pc := 69) (k := 2) (v := va_rf ((N a0 2).map ad)) C gcX9 inX9 (by decide) fl_Un_25 ha0 rfl d_Un_loadInX_69 ?_
  refine g_top (g_rf hnb17) ?_
  obtain ⟨b18, hnb18, hb18, h⟩ := o_rq h
  refine g_getN (pc := 72) (k := 1) (v := va_rf ((N b17 1).map ad)) C gcX5 inX5 (by decide) fl_Un_70 hb17 rfl d_Un_loadInX_72 ?_
  refine g_top (g_rf hnb18) ?_
  obtain ⟨r19, hc20, h⟩ := o_bn1 h
  refine g_V (pc := 75) (rest := [.int r15]) C (k_Po_leastPower (xl X) hb18 hc20) sm_Po_leastPower ml_Un_122 im_Po_leastPower se_Po_leastPower gcX6 rfl hb18 ⟨rfl, rfl, Nat.le_of_ble_eq_true rfl, Nat.le_of_ble_eq_true rfl⟩ ⟨Nat.zero_le _, Nat.zero_le _⟩ rfl rfl (Nat.le_of_ble_eq_true rfl) d_Un_loadInX_75 [.int r19, .int r15] rfl ?_
  refine g_min (pc := 78) C ml_Un_149 jd_min_s jd_Math_i jd_min_c ⟨Nat.le_of_ble_eq_true rfl, Nat.le_of_ble_eq_true rfl, Nat.zero_le _, Nat.zero_le _⟩ d_Un_loadInX_78 ?_
  obtain ⟨v21, ev21, h⟩ := o_bd h
  refine g_topi ev21 ?_
  refine g_istore_n (pc := 81) (lv' := [(2, .int v21), (1, .int s0), (0, .ref (ad a0))]) C d_Un_loadInX_81 rfl (by decide) rfl ?_
  refine g_iload_n (pc := 82) C d_Un_loadInX_82 rfl 0 rfl ?_
  refine g_if_le (pc := 83) C 132 d_Un_loadInX_83 rfl (fun e22 => ?_) (fun e22 => ?_)
  · have h := o_pos e22 h
    obtain rfl := o_ret h
    exact g_vret (pc := 132) C d_Un_loadInX_132
  · have h := o_neg e22 h
    refine g_aload_n (pc := 86) C d_Un_loadInX_86 rfl 2 rfl ?_
    obtain ⟨b23, hnb23, hb23, h⟩ := o_rq h
    refine g_get (pc := 87) (k := 2) (v := va_rf ((N a0 2).map ad)) C gcX9 inX9 (by decide) fl_Un_25 ha0 rfl d_Un_loadInX_87 ?_
    refine g_top (g_rf hnb23) ?_
    obtain ⟨b24, hnb24, hb24, h⟩ := o_rq h
    refine g_getN (pc := 90) (k := 0) (v := va_rf ((N b23 0).map ad)) C gcX5 inX5 (by decide) fl_Un_63 hb23 rfl d_Un_loadInX_90 ?_
    refine g_top (g_rf hnb24) ?_
    refine g_aload_n (pc := 93) C d_Un_loadInX_93 rfl 2 rfl ?_
    obtain ⟨b25, hnb25, hb25, h⟩ := o_rq h
    refine g_get (pc := 94) (k := 1) (v := va_rf ((N a0 1).map ad)) C gcX9 inX9 (by decide) fl_Un_21 ha0 rfl d_Un_loadInX_94 ?_
    refine g_top (g_rf hnb25) ?_
    obtain ⟨b26, hnb26, hb26, h⟩ := o_rq h
    refine g_getN (pc := 97) (k := 0) (v := va_rf ((N b25 0).map ad)) C gcX5 inX5 (by decide) fl_Un_63 hb25 rfl d_Un_loadInX_97 ?_
    refine g_top (g_rf hnb26) ?_
    refine g_iload_n (pc := 100) C d_Un_loadInX_100 rfl 1 rfl ?_
    refine g_iconst (pc := 101) C (2 : Int32) d_Un_loadInX_101 (by decide) ?_
    refine g_iload_n (pc := 102) C d_Un_loadInX_102 rfl 0 rfl ?_
    refine g_imul (pc := 103) C d_Un_loadInX_103 ?_
    refine g_iadd (pc := 104) C d_Un_loadInX_104 ?_
    obtain ⟨J27, hc28, h⟩ := o_bn1 h
    refine g_V (pc := 105) (rest := []) C (k_Po_loadEveryOther (xl X) hb24 hb26 hc28) sm_Po_loadEveryOther ml_Un_145 im_Po_loadEveryOther se_Po_loadEveryOther gcX6 rfl hb24 ⟨rfl, rfl, Nat.le_of_ble_eq_true rfl, Nat.le_of_ble_eq_true rfl⟩ ⟨Nat.zero_le _, Nat.zero_le _⟩ rfl rfl (Nat.le_of_ble_eq_true rfl) d_Un_loadInX_105 [] rfl ?_
    refine g_aload_n (pc := 108) C d_Un_loadInX_108 rfl 2 rfl ?_
    obtain ⟨b29, hnb29, hb29, h⟩ := o_rq h
    refine g_get (pc := 109) (k := 2) (v := va_rf ((N a0 2).map ad)) C gcX9 inX9 (by decide) fl_Un_25 ha0 rfl d_Un_loadInX_109 ?_
    refine g_top (g_rf hnb29) ?_
    obtain ⟨b30, hnb30, hb30, h⟩ := o_rq h
    refine g_getN (pc := 112) (k := 1) (v := va_rf ((N b29 1).map ad)) C gcX5 inX5 (by decide) fl_Un_70 hb29 rfl d_Un_loadInX_112 ?_
    refine g_top (g_rf hnb30) ?_
    refine g_aload_n (pc := 115) C d_Un_loadInX_115 rfl 2 rfl ?_
    obtain ⟨b31, hnb31, hb31, h⟩ := o_rq h
    refine g_get (pc := 116) (k := 1) (v := va_rf ((N a0 1).map ad)) C gcX9 inX9 (by decide) fl_Un_21 ha0 rfl d_Un_loadInX_116 ?_
    refine g_top (g_rf hnb31) ?_
    obtain ⟨b32, hnb32, hb32, h⟩ := o_rq h
    refine g_getN (pc := 119) (k := 1) (v := va_rf ((N b31 1).map ad)) C gcX5 inX5 (by decide) fl_Un_70 hb31 rfl d_Un_loadInX_119 ?_
    refine g_top (g_rf hnb32) ?_
    refine g_iload_n (pc := 122) C d_Un_loadInX_122 rfl 1 rfl ?_
    refine g_iconst (pc := 123) C (1 : Int32) d_Un_loadInX_123 (by decide) ?_
    refine g_iadd (pc := 124) C d_Un_loadInX_124 ?_
    refine g_iconst (pc := 125) C (2 : Int32) d_Un_loadInX_125 (by decide) ?_
    refine g_iload_n (pc := 126) C d_Un_loadInX_126 rfl 0 rfl ?_
    refine g_imul (pc := 127) C d_Un_loadInX_127 ?_
    refine g_iadd (pc := 128) C d_Un_loadInX_128 ?_
    obtain ⟨J33, hc34, h⟩ := o_bn1 h
    refine g_V (pc := 129) (rest := []) C (k_Po_loadEveryOther (xl X) hb30 hb32 hc34) sm_Po_loadEveryOther ml_Un_145 im_Po_loadEveryOther se_Po_loadEveryOther gcX6 rfl hb30 ⟨rfl, rfl, Nat.le_of_ble_eq_true rfl, Nat.le_of_ble_eq_true rfl⟩ ⟨Nat.zero_le _, Nat.zero_le _⟩ rfl rfl (Nat.le_of_ble_eq_true rfl) d_Un_loadInX_129 [] rfl ?_
    obtain rfl := o_ret h
    exact g_vret (pc := 132) C d_Un_loadInX_132
set_option maxRecDepth 20000 in
theorem w_Un_loadInX_0 {X : HX} {ad : Nat → Nat} {I : HI} {J : HJ} {N : HN} {r : HJ} {a0 : Nat} (C : Cx X c_Un_loadInX RX9 3 none rm_Un_loadInX) (ha0 : gk Tc nC a0 (0, 9))
    (h : Un_loadInX_0 N a0 J = some r) : G Tc X ad nC 0 0 I J N (gE X Tc ad nC (I, r, N, fun _ => none)) 0 3 [(0, .ref (ad a0))] [] := by
  refine g_aload_n (pc := 0) C d_Un_loadInX_0 rfl 0 rfl ?_
  obtain ⟨b1, hnb1, hb1, h⟩ := o_rq h
  refine g_get (pc := 1) (k := 1) (v := va_rf ((N a0 1).map ad)) C gcX9 inX9 (by decide) fl_Un_21 ha0 rfl d_Un_loadInX_1 ?_
  refine g_top (g_rf hnb1) ?_
  obtain ⟨b2, hnb2, hb2, h⟩ := o_rq h
  refine g_getN (pc := 4) (k := 0) (v := va_rf ((N b1 0).map ad)) C gcX5 inX5 (by decide) fl_Un_63 hb1 rfl d_Un_loadInX_4 ?_
  refine g_top (g_rf hnb2) ?_
  refine g_iconst (pc := 7) C (0 : Int32) d_Un_loadInX_7 (by decide) ?_
  obtain ⟨r3, hc4, h⟩ := o_bn1 h
  refine g_V (pc := 8) (rest := []) C (k_Po_isOfParity (xl X) hb2 hc4) sm_Po_isOfParity ml_Un_141 im_Po_isOfParity se_Po_isOfParity gcX6 rfl hb2 ⟨rfl, rfl, Nat.le_of_ble_eq_true rfl, Nat.le_of_ble_eq_true rfl⟩ ⟨Nat.zero_le _, Nat.zero_le _⟩ rfl rfl (Nat.le_of_ble_eq_true rfl) d_Un_loadInX_8 [.int r3] rfl ?_
  refine g_if_eq (pc := 11) C 18 d_Un_loadInX_11 rfl (fun e5 => ?_) (fun e5 => ?_)
  · have h := o_pos e5 h
    refine g_iconst (pc := 18) C (-1 : Int32) d_Un_loadInX_18 (by decide) ?_
    refine g_lv [0] rfl ?_
    exact w_Un_loadInX_19 C ha0 h
  · have h := o_neg e5 h
    refine g_iconst (pc := 14) C (0 : Int32) d_Un_loadInX_14 (by decide) ?_
    refine g_goto (pc := 15) C 19 d_Un_loadInX_15 rfl ?_
    refine g_lv [0] rfl ?_
    exact w_Un_loadInX_19 C ha0 h
set_option maxRecDepth 20000 in
theorem k_Un_loadInX (l : Launch) {I : HI} {J : HJ} {N : HN} {a0 : Nat} {r : HJ} (ha0 : gk Tc nC a0 (0, 9)) (h : Un_loadInX N a0 J = some r) : gM l y_Un_loadInX c_Un_loadInX 3 none rm_Un_loadInX Tc nC I J N (fun ad => [.ref (ad a0)]) (I, r, N, fun _ => none) :=
  g_meth (lv := fun ad => [(0, .ref (ad a0))]) (by decide) (fun _ => Nat.le_of_ble_eq_true rfl) (fun _ => rfl) (fun X ad C => g_lv [0] rfl (w_Un_loadInX_0 C ha0 h))
theorem d_Un_timesInRest_0 : decode c_Un_timesInRest 0 = .ok (.iconst 0, 1) := by decide +kernel
theorem d_Un_timesInRest_1 : decode c_Un_timesInRest 1 = .ok (.istore_n 3, 1) := by decide +kernel
theorem d_Un_timesInRest_2 : decode c_Un_timesInRest 2 = .ok (.iload_n 3, 1) := by decide +kernel
theorem d_Un_timesInRest_3 : decode c_Un_timesInRest 3 = .ok (.iconst 3, 1) := by decide +kernel
theorem d_Un_timesInRest_4 : decode c_Un_timesInRest 4 = .ok (.if_icmp .ge 36, 3) := by decide +kernel
theorem d_Un_timesInRest_7 : decode c_Un_timesInRest 7 = .ok (.aload_n 0, 1) := by decide +kernel
theorem d_Un_timesInRest_8 : decode c_Un_timesInRest 8 = .ok (.getfield 31, 3) := by decide +kernel
theorem d_Un_timesInRest_11 : decode c_Un_timesInRest 11 = .ok (.iload_n 1, 1) := by decide +kernel
theorem d_Un_timesInRest_12 : decode c_Un_timesInRest 12 = .ok (.i2l, 1) := by decide +kernel
theorem d_Un_timesInRest_13 : decode c_Un_timesInRest 13 = .ok (.iload_n 2, 1) := by decide +kernel
theorem d_Un_timesInRest_14 : decode c_Un_timesInRest 14 = .ok (.i2l, 1) := by decide +kernel
theorem d_Un_timesInRest_15 : decode c_Un_timesInRest 15 = .ok (.invokevirtual 157, 3) := by decide +kernel
theorem d_Un_timesInRest_18 : decode c_Un_timesInRest 18 = .ok (.lconst 0, 1) := by decide +kernel
theorem d_Un_timesInRest_19 : decode c_Un_timesInRest 19 = .ok (.lcmp, 1) := by decide +kernel
theorem d_Un_timesInRest_20 : decode c_Un_timesInRest 20 = .ok (.ifCond .ne 20, 3) := by decide +kernel
theorem d_Un_timesInRest_23 : decode c_Un_timesInRest 23 = .ok (.aload_n 0, 1) := by decide +kernel
theorem d_Un_timesInRest_24 : decode c_Un_timesInRest 24 = .ok (.getfield 31, 3) := by decide +kernel
theorem d_Un_timesInRest_27 : decode c_Un_timesInRest 27 = .ok (.iload_n 1, 1) := by decide +kernel
theorem d_Un_timesInRest_28 : decode c_Un_timesInRest 28 = .ok (.i2l, 1) := by decide +kernel
theorem d_Un_timesInRest_29 : decode c_Un_timesInRest 29 = .ok (.iload_n 2, 1) := by decide +kernel
theorem d_Un_timesInRest_30 : decode c_Un_timesInRest 30 = .ok (.i2l, 1) := by decide +kernel
theorem d_Un_timesInRest_31 : decode c_Un_timesInRest 31 = .ok (.invokevirtual 171, 3) := by decide +kernel
theorem d_Un_timesInRest_34 : decode c_Un_timesInRest 34 = .ok (.iinc 3 1, 3) := by decide +kernel
theorem d_Un_timesInRest_37 : decode c_Un_timesInRest 37 = .ok (.goto (-35), 3) := by decide +kernel
theorem d_Un_timesInRest_40 : decode c_Un_timesInRest 40 = .ok (.iload_n 3, 1) := by decide +kernel
theorem d_Un_timesInRest_41 : decode c_Un_timesInRest 41 = .ok (.ireturn, 1) := by decide +kernel
set_option maxRecDepth 20000 in
theorem w_Un_timesInRest_2b {X : HX} {ad : Nat → Nat} {I : HI} {J : HJ} {N : HN} {r : HJ × Int32} {k2 : HJ → Int32 → Option (HJ × Int32)} {a0 : Nat} {p1 : Int32} {p2 : Int32} {x3 : Int32} (C : Cx X c_Un_timesInRest RX9 4 (some .int) rm_Un_timesInRest) (ha0 : gk Tc nC a0 (0, 9))
    (hk2 : ∀ (J : HJ) (x3 : Int32), k2 J x3 = some r → G Tc X ad nC 0 0 I J N (gE X Tc ad nC (I, r.1, N, fun _ => some (.int r.2))) 2 4 [(0, .ref (ad a0)), (1, .int p1), (2, .int p2), (3, .int x3)] [])
    (h : Un_timesInRest_2b N a0 p1 p2 k2 J x3 = some r) : G Tc X ad nC 0 0 I J N (gE X Tc ad nC (I, r.1, N, fun _ => some (.int r.2))) 2 4 [(0, .ref (ad a0)), (1, .int p1), (2, .int p2), (3, .int x3)] [] := by
  refine g_iload_n (pc := 2) C d_Un_timesInRest_2 rfl 3 rfl ?_
  refine g_iconst (pc := 3) C (3 : Int32) d_Un_timesInRest_3 (by decide) ?_
  refine g_icmp_ge (pc := 4) C 40 d_Un_timesInRest_4 rfl (fun e1 => ?_) (fun e1 => ?_)
  · have h := o_pos e1 h
    refine g_iload_n (pc := 40) C d_Un_timesInRest_40 rfl 3 rfl ?_
    obtain rfl := o_ret h
    exact g_iret (pc := 41) C d_Un_timesInRest_41
  · have h := o_neg e1 h
    refine g_aload_n (pc := 7) C d_Un_timesInRest_7 rfl 0 rfl ?_
    obtain ⟨b2, hnb2, hb2, h⟩ := o_rq h
    refine g_get (pc := 8) (k := 3) (v := va_rf ((N a0 3).map ad)) C gcX9 inX9 (by decide) fl_Un_31 ha0 rfl d_Un_timesInRest_8 ?_
    refine g_top (g_rf hnb2) ?_
    refine g_iload_n (pc := 11) C d_Un_timesInRest_11 rfl 1 rfl ?_
    refine g_i2l (pc := 12) C d_Un_timesInRest_12 ?_
    refine g_iload_n (pc := 13) C d_Un_timesInRest_13 rfl 2 rfl ?_
    refine g_i2l (pc := 14) C d_Un_timesInRest_14 ?_
    obtain ⟨r3, hc4, h⟩ := o_bn1 h
    refine g_V (pc := 15) (rest := []) C (k_Po_valueAtMinus (xl X) hb2 hc4) sm_Po_valueAtMinus ml_Un_157 im_Po_valueAtMinus se_Po_valueAtMinus gcX6 rfl hb2 ⟨rfl, rfl, Nat.le_of_ble_eq_true rfl, Nat.le_of_ble_eq_true rfl⟩ ⟨Nat.zero_le _, Nat.zero_le _⟩ rfl rfl (Nat.le_of_ble_eq_true rfl) d_Un_timesInRest_15 [.long r3] rfl ?_
    refine g_lconst (pc := 18) C (0 : Int64) d_Un_timesInRest_18 (by decide) ?_
    refine g_lcmp_ne (pc := 19) C 40 d_Un_timesInRest_19 d_Un_timesInRest_20 rfl (fun e5 => ?_) (fun e5 => ?_)
    · have h := o_neg e5 h
      refine g_iload_n (pc := 40) C d_Un_timesInRest_40 rfl 3 rfl ?_
      obtain rfl := o_ret h
      exact g_iret (pc := 41) C d_Un_timesInRest_41
    · have h := o_pos e5 h
      refine g_aload_n (pc := 23) C d_Un_timesInRest_23 rfl 0 rfl ?_
      obtain ⟨b6, hnb6, hb6, h⟩ := o_rq h
      refine g_get (pc := 24) (k := 3) (v := va_rf ((N a0 3).map ad)) C gcX9 inX9 (by decide) fl_Un_31 ha0 rfl d_Un_timesInRest_24 ?_
      refine g_top (g_rf hnb6) ?_
      refine g_iload_n (pc := 27) C d_Un_timesInRest_27 rfl 1 rfl ?_
      refine g_i2l (pc := 28) C d_Un_timesInRest_28 ?_
      refine g_iload_n (pc := 29) C d_Un_timesInRest_29 rfl 2 rfl ?_
      refine g_i2l (pc := 30) C d_Un_timesInRest_30 ?_
      obtain ⟨J7, hc8, h⟩ := o_bn1 h
      refine g_V (pc := 31) (rest := []) C (k_Po_divideByRoot (xl X) hb6 hc8) sm_Po_divideByRoot ml_Un_171 im_Po_divideByRoot se_Po_divideByRoot gcX6 rfl hb6 ⟨rfl, rfl, Nat.le_of_ble_eq_true rfl, Nat.le_of_ble_eq_true rfl⟩ ⟨Nat.zero_le _, Nat.zero_le _⟩ rfl rfl (Nat.le_of_ble_eq_true rfl) d_Un_timesInRest_31 [] rfl ?_
      refine g_iinc (pc := 34) (q := 3) (lv' := [(3, .int (x3 + 1)), (0, .ref (ad a0)), (1, .int p1), (2, .int p2)]) C d_Un_timesInRest_34 rfl rfl (by decide) rfl ?_
      refine g_goto (pc := 37) C 2 d_Un_timesInRest_37 rfl ?_
      refine g_lv [1, 2, 3, 0] rfl ?_
      exact hk2 _ _ h
set_option maxRecDepth 20000 in
theorem w_Un_timesInRest_2 {X : HX} {ad : Nat → Nat} {I : HI} {N : HN} {r : HJ × Int32} {a0 : Nat} {p1 : Int32} {p2 : Int32} (C : Cx X c_Un_timesInRest RX9 4 (some .int) rm_Un_timesInRest) (ha0 : gk Tc nC a0 (0, 9)) : ∀ (n : Nat) (J : HJ) (x3 : Int32), Un_timesInRest_2 N a0 p1 p2 n J x3 = some r → G Tc X ad nC 0 0 I J N (gE X Tc ad nC (I, r.1, N, fun _ => some (.int r.2))) 2 4 [(0, .ref (ad a0)), (1, .int p1), (2, .int p2), (3, .int x3)] [] := by
  intro n
  induction n with
  | zero => intro J x3 h; cases h
  | succ n ih => intro J x3 h; exact w_Un_timesInRest_2b C ha0 ih h
set_option maxRecDepth 20000 in
theorem w_Un_timesInRest_0 {X : HX} {ad : Nat → Nat} {I : HI} {J : HJ} {N : HN} {r : HJ × Int32} {a0 : Nat} {p1 : Int32} {p2 : Int32} (C : Cx X c_Un_timesInRest RX9 4 (some .int) rm_Un_timesInRest) (ha0 : gk Tc nC a0 (0, 9))
    (h : Un_timesInRest_0 N a0 p1 p2 J = some r) : G Tc X ad nC 0 0 I J N (gE X Tc ad nC (I, r.1, N, fun _ => some (.int r.2))) 0 4 [(0, .ref (ad a0)), (1, .int p1), (2, .int p2)] [] := by
  refine g_iconst (pc := 0) C (0 : Int32) d_Un_timesInRest_0 (by decide) ?_
  refine g_istore_n (pc := 1) (lv' := [(3, .int (0 : Int32)), (0, .ref (ad a0)), (1, .int p1), (2, .int p2)]) C d_Un_timesInRest_1 rfl (by decide) rfl ?_
  refine g_lv [1, 2, 3, 0] rfl ?_
  exact w_Un_timesInRest_2 C ha0 _ _ _ h
set_option maxRecDepth 20000 in
theorem k_Un_timesInRest (l : Launch) {I : HI} {J : HJ} {N : HN} {a0 : Nat} {p1 : Int32} {p2 : Int32} {r : HJ × Int32} (ha0 : gk Tc nC a0 (0, 9)) (h : Un_timesInRest N a0 p1 p2 J = some r) : gM l y_Un_timesInRest c_Un_timesInRest 4 (some .int) rm_Un_timesInRest Tc nC I J N (fun ad => [.ref (ad a0), .int p1, .int p2]) (I, r.1, N, fun _ => some (.int r.2)) :=
  g_meth (lv := fun ad => [(0, .ref (ad a0)), (1, .int p1), (2, .int p2)]) (by decide) (fun _ => Nat.le_of_ble_eq_true rfl) (fun _ => rfl) (fun X ad C => g_lv [0, 1, 2] rfl (w_Un_timesInRest_0 C ha0 h))
theorem d_Un_addRoot_0 : decode c_Un_addRoot 0 = .ok (.aload_n 0, 1) := by decide +kernel
theorem d_Un_addRoot_1 : decode c_Un_addRoot 1 = .ok (.getfield 55, 3) := by decide +kernel
theorem d_Un_addRoot_4 : decode c_Un_addRoot 4 = .ok (.iconst 3, 1) := by decide +kernel
theorem d_Un_addRoot_5 : decode c_Un_addRoot 5 = .ok (.if_icmp .lt 4, 3) := by decide +kernel
theorem d_Un_addRoot_8 : decode c_Un_addRoot 8 = .ok (.return_, 1) := by decide +kernel
theorem d_Un_addRoot_9 : decode c_Un_addRoot 9 = .ok (.aload_n 0, 1) := by decide +kernel
theorem d_Un_addRoot_10 : decode c_Un_addRoot 10 = .ok (.getfield 55, 3) := by decide +kernel
theorem d_Un_addRoot_13 : decode c_Un_addRoot 13 = .ok (.istore 4, 2) := by decide +kernel
theorem d_Un_addRoot_15 : decode c_Un_addRoot 15 = .ok (.iload 4, 2) := by decide +kernel
theorem d_Un_addRoot_17 : decode c_Un_addRoot 17 = .ok (.ifCond .le 82, 3) := by decide +kernel
theorem d_Un_addRoot_20 : decode c_Un_addRoot 20 = .ok (.iload_n 1, 1) := by decide +kernel
theorem d_Un_addRoot_21 : decode c_Un_addRoot 21 = .ok (.aload_n 0, 1) := by decide +kernel
theorem d_Un_addRoot_22 : decode c_Un_addRoot 22 = .ok (.getfield 49, 3) := by decide +kernel
theorem d_Un_addRoot_25 : decode c_Un_addRoot 25 = .ok (.iload 4, 2) := by decide +kernel
theorem d_Un_addRoot_27 : decode c_Un_addRoot 27 = .ok (.iconst 1, 1) := by decide +kernel
theorem d_Un_addRoot_28 : decode c_Un_addRoot 28 = .ok (.isub, 1) := by decide +kernel
theorem d_Un_addRoot_29 : decode c_Un_addRoot 29 = .ok (.iaload, 1) := by decide +kernel
theorem d_Un_addRoot_30 : decode c_Un_addRoot 30 = .ok (.imul, 1) := by decide +kernel
theorem d_Un_addRoot_31 : decode c_Un_addRoot 31 = .ok (.aload_n 0, 1) := by decide +kernel
theorem d_Un_addRoot_32 : decode c_Un_addRoot 32 = .ok (.getfield 45, 3) := by decide +kernel
theorem d_Un_addRoot_35 : decode c_Un_addRoot 35 = .ok (.iload 4, 2) := by decide +kernel
theorem d_Un_addRoot_37 : decode c_Un_addRoot 37 = .ok (.iconst 1, 1) := by decide +kernel
theorem d_Un_addRoot_38 : decode c_Un_addRoot 38 = .ok (.isub, 1) := by decide +kernel
theorem d_Un_addRoot_39 : decode c_Un_addRoot 39 = .ok (.iaload, 1) := by decide +kernel
theorem d_Un_addRoot_40 : decode c_Un_addRoot 40 = .ok (.iload_n 2, 1) := by decide +kernel
theorem d_Un_addRoot_41 : decode c_Un_addRoot 41 = .ok (.imul, 1) := by decide +kernel
theorem d_Un_addRoot_42 : decode c_Un_addRoot 42 = .ok (.if_icmp .ge 57, 3) := by decide +kernel
theorem d_Un_addRoot_45 : decode c_Un_addRoot 45 = .ok (.aload_n 0, 1) := by decide +kernel
theorem d_Un_addRoot_46 : decode c_Un_addRoot 46 = .ok (.getfield 45, 3) := by decide +kernel
theorem d_Un_addRoot_49 : decode c_Un_addRoot 49 = .ok (.iload 4, 2) := by decide +kernel
theorem d_Un_addRoot_51 : decode c_Un_addRoot 51 = .ok (.aload_n 0, 1) := by decide +kernel
theorem d_Un_addRoot_52 : decode c_Un_addRoot 52 = .ok (.getfield 45, 3) := by decide +kernel
theorem d_Un_addRoot_55 : decode c_Un_addRoot 55 = .ok (.iload 4, 2) := by decide +kernel
theorem d_Un_addRoot_57 : decode c_Un_addRoot 57 = .ok (.iconst 1, 1) := by decide +kernel
theorem d_Un_addRoot_58 : decode c_Un_addRoot 58 = .ok (.isub, 1) := by decide +kernel
theorem d_Un_addRoot_59 : decode c_Un_addRoot 59 = .ok (.iaload, 1) := by decide +kernel
theorem d_Un_addRoot_60 : decode c_Un_addRoot 60 = .ok (.iastore, 1) := by decide +kernel
theorem d_Un_addRoot_61 : decode c_Un_addRoot 61 = .ok (.aload_n 0, 1) := by decide +kernel
theorem d_Un_addRoot_62 : decode c_Un_addRoot 62 = .ok (.getfield 49, 3) := by decide +kernel
theorem d_Un_addRoot_65 : decode c_Un_addRoot 65 = .ok (.iload 4, 2) := by decide +kernel
theorem d_Un_addRoot_67 : decode c_Un_addRoot 67 = .ok (.aload_n 0, 1) := by decide +kernel
theorem d_Un_addRoot_68 : decode c_Un_addRoot 68 = .ok (.getfield 49, 3) := by decide +kernel
theorem d_Un_addRoot_71 : decode c_Un_addRoot 71 = .ok (.iload 4, 2) := by decide +kernel
theorem d_Un_addRoot_73 : decode c_Un_addRoot 73 = .ok (.iconst 1, 1) := by decide +kernel
theorem d_Un_addRoot_74 : decode c_Un_addRoot 74 = .ok (.isub, 1) := by decide +kernel
theorem d_Un_addRoot_75 : decode c_Un_addRoot 75 = .ok (.iaload, 1) := by decide +kernel
theorem d_Un_addRoot_76 : decode c_Un_addRoot 76 = .ok (.iastore, 1) := by decide +kernel
theorem d_Un_addRoot_77 : decode c_Un_addRoot 77 = .ok (.aload_n 0, 1) := by decide +kernel
theorem d_Un_addRoot_78 : decode c_Un_addRoot 78 = .ok (.getfield 52, 3) := by decide +kernel
theorem d_Un_addRoot_81 : decode c_Un_addRoot 81 = .ok (.iload 4, 2) := by decide +kernel
theorem d_Un_addRoot_83 : decode c_Un_addRoot 83 = .ok (.aload_n 0, 1) := by decide +kernel
theorem d_Un_addRoot_84 : decode c_Un_addRoot 84 = .ok (.getfield 52, 3) := by decide +kernel
theorem d_Un_addRoot_87 : decode c_Un_addRoot 87 = .ok (.iload 4, 2) := by decide +kernel
theorem d_Un_addRoot_89 : decode c_Un_addRoot 89 = .ok (.iconst 1, 1) := by decide +kernel
theorem d_Un_addRoot_90 : decode c_Un_addRoot 90 = .ok (.isub, 1) := by decide +kernel
theorem d_Un_addRoot_91 : decode c_Un_addRoot 91 = .ok (.iaload, 1) := by decide +kernel
theorem d_Un_addRoot_92 : decode c_Un_addRoot 92 = .ok (.iastore, 1) := by decide +kernel
theorem d_Un_addRoot_93 : decode c_Un_addRoot 93 = .ok (.iinc 4 (-1), 3) := by decide +kernel
theorem d_Un_addRoot_96 : decode c_Un_addRoot 96 = .ok (.goto (-81), 3) := by decide +kernel
theorem d_Un_addRoot_99 : decode c_Un_addRoot 99 = .ok (.aload_n 0, 1) := by decide +kernel
theorem d_Un_addRoot_100 : decode c_Un_addRoot 100 = .ok (.getfield 45, 3) := by decide +kernel
theorem d_Un_addRoot_103 : decode c_Un_addRoot 103 = .ok (.iload 4, 2) := by decide +kernel
theorem d_Un_addRoot_105 : decode c_Un_addRoot 105 = .ok (.iload_n 1, 1) := by decide +kernel
theorem d_Un_addRoot_106 : decode c_Un_addRoot 106 = .ok (.iastore, 1) := by decide +kernel
theorem d_Un_addRoot_107 : decode c_Un_addRoot 107 = .ok (.aload_n 0, 1) := by decide +kernel
theorem d_Un_addRoot_108 : decode c_Un_addRoot 108 = .ok (.getfield 49, 3) := by decide +kernel
theorem d_Un_addRoot_111 : decode c_Un_addRoot 111 = .ok (.iload 4, 2) := by decide +kernel
theorem d_Un_addRoot_113 : decode c_Un_addRoot 113 = .ok (.iload_n 2, 1) := by decide +kernel
theorem d_Un_addRoot_114 : decode c_Un_addRoot 114 = .ok (.iastore, 1) := by decide +kernel
theorem d_Un_addRoot_115 : decode c_Un_addRoot 115 = .ok (.aload_n 0, 1) := by decide +kernel
theorem d_Un_addRoot_116 : decode c_Un_addRoot 116 = .ok (.getfield 52, 3) := by decide +kernel
theorem d_Un_addRoot_119 : decode c_Un_addRoot 119 = .ok (.iload 4, 2) := by decide +kernel
theorem d_Un_addRoot_121 : decode c_Un_addRoot 121 = .ok (.iload_n 3, 1) := by decide +kernel
theorem d_Un_addRoot_122 : decode c_Un_addRoot 122 = .ok (.iastore, 1) := by decide +kernel
theorem d_Un_addRoot_123 : decode c_Un_addRoot 123 = .ok (.aload_n 0, 1) := by decide +kernel
theorem d_Un_addRoot_124 : decode c_Un_addRoot 124 = .ok (.dup, 1) := by decide +kernel
theorem d_Un_addRoot_125 : decode c_Un_addRoot 125 = .ok (.getfield 55, 3) := by decide +kernel
theorem d_Un_addRoot_128 : decode c_Un_addRoot 128 = .ok (.iconst 1, 1) := by decide +kernel
theorem d_Un_addRoot_129 : decode c_Un_addRoot 129 = .ok (.iadd, 1) := by decide +kernel
theorem d_Un_addRoot_130 : decode c_Un_addRoot 130 = .ok (.putfield 55, 3) := by decide +kernel
theorem d_Un_addRoot_133 : decode c_Un_addRoot 133 = .ok (.return_, 1) := by decide +kernel
set_option maxRecDepth 20000 in
theorem w_Un_addRoot_99 {X : HX} {ad : Nat → Nat} {I : HI} {J : HJ} {N : HN} {r : HI} {a0 : Nat} {p1 : Int32} {p2 : Int32} {p3 : Int32} {x4 : Int32} (C : Cx X c_Un_addRoot RX9 5 none rm_Un_addRoot) (ha0 : gk Tc nC a0 (0, 9))
    (h : Un_addRoot_99 N a0 p1 p2 p3 I x4 = some r) : G Tc X ad nC 0 0 I J N (gE X Tc ad nC (r, J, N, fun _ => none)) 99 5 [(0, .ref (ad a0)), (1, .int p1), (2, .int p2), (3, .int p3), (4, .int x4)] [] := by
  refine g_aload_n (pc := 99) C d_Un_addRoot_99 rfl 0 rfl ?_
  obtain ⟨b1, hnb1, hb1, h⟩ := o_ra h
  refine g_get (pc := 100) (k := 6) (v := va_rf ((N a0 6).map ad)) C gcX9 inX9 (by decide) fl_Un_45 ha0 rfl d_Un_addRoot_100 ?_
  refine g_top (g_rf hnb1) ?_
  refine g_iload (pc := 103) C d_Un_addRoot_103 4 rfl ?_
  refine g_iload_n (pc := 105) C d_Un_addRoot_105 rfl 1 rfl ?_
  obtain ⟨hi2, h⟩ := o_gd h
  refine g_iast (pc := 106) C hb1 hi2 d_Un_addRoot_106 ?_
  obtain ⟨I3, eI3, h⟩ := o_bd h
  rw [← eI3]
  refine g_aload_n (pc := 107) C d_Un_addRoot_107 rfl 0 rfl ?_
  obtain ⟨b4, hnb4, hb4, h⟩ := o_ra h
  refine g_get (pc := 108) (k := 7) (v := va_rf ((N a0 7).map ad)) C gcX9 inX9 (by decide) fl_Un_49 ha0 rfl d_Un_addRoot_108 ?_
  refine g_top (g_rf hnb4) ?_
  refine g_iload (pc := 111) C d_Un_addRoot_111 4 rfl ?_
  refine g_iload_n (pc := 113) C d_Un_addRoot_113 rfl 2 rfl ?_
  obtain ⟨hi5, h⟩ := o_gd h
  refine g_iast (pc := 114) C hb4 hi5 d_Un_addRoot_114 ?_
  obtain ⟨I6, eI6, h⟩ := o_bd h
  rw [← eI6]
  refine g_aload_n (pc := 115) C d_Un_addRoot_115 rfl 0 rfl ?_
  obtain ⟨b7, hnb7, hb7, h⟩ := o_ra h
  refine g_get (pc := 116) (k := 8) (v := va_rf ((N a0 8).map ad)) C gcX9 inX9 (by decide) fl_Un_52 ha0 rfl d_Un_addRoot_116 ?_
  refine g_top (g_rf hnb7) ?_
  refine g_iload (pc := 119) C d_Un_addRoot_119 4 rfl ?_
  refine g_iload_n (pc := 121) C d_Un_addRoot_121 rfl 3 rfl ?_
  obtain ⟨hi8, h⟩ := o_gd h
  refine g_iast (pc := 122) C hb7 hi8 d_Un_addRoot_122 ?_
  obtain ⟨I9, eI9, h⟩ := o_bd h
  rw [← eI9]
  refine g_aload_n (pc := 123) C d_Un_addRoot_123 rfl 0 rfl ?_
  refine g_dup (pc := 124) C d_Un_addRoot_124 rfl ?_
  refine g_get (pc := 125) (k := 9) (v := .int (I9 a0 9)) C gcX9 inX9 (by decide) fl_Un_55 ha0 rfl d_Un_addRoot_125 ?_
  refine g_iconst (pc := 128) C (1 : Int32) d_Un_addRoot_128 (by decide) ?_
  refine g_iadd (pc := 129) C d_Un_addRoot_129 ?_
  refine g_put (pc := 130) (I' := up2 I9 a0 9 ((I9 a0 9) + (1 : Int32))) (J' := J) (N' := N) (k := 9) C gcX9 inX9 tyX9_ok nmX9 (by decide) fl_Un_55 rfl ha0 (tyX9_ok 9 (by decide)) rfl rfl (Nat.le_of_ble_eq_true rfl) gs_9_9 (fun b hb => up2_of hb) (fun _ _ => rfl) (fun _ _ => rfl) d_Un_addRoot_130 ?_
  obtain ⟨I10, eI10, h⟩ := o_bd h
  rw [← eI10]
  obtain rfl := o_ret h
  exact g_vret (pc := 133) C d_Un_addRoot_133
set_option maxRecDepth 20000 in
theorem w_Un_addRoot_15b {X : HX} {ad : Nat → Nat} {I : HI} {J : HJ} {N : HN} {r : HI} {k15 : HI → Int32 → Option (HI)} {a0 : Nat} {p1 : Int32} {p2 : Int32} {p3 : Int32} {x4 : Int32} (C : Cx X c_Un_addRoot RX9 5 none rm_Un_addRoot) (ha0 : gk Tc nC a0 (0, 9))
    (hk15 : ∀ (I : HI) (x4 : Int32), k15 I x4 = some r → G Tc X ad nC 0 0 I J N (gE X Tc ad nC (r, J, N, fun _ => none)) 15 5 [(0, .ref (ad a0)), (1, .int p1), (2, .int p2), (3, .int p3), (4, .int x4)] [])
    (h : Un_addRoot_15b N a0 p1 p2 p3 k15 I x4 = some r) : G Tc X ad nC 0 0 I J N (gE X Tc ad nC (r, J, N, fun _ => none)) 15 5 [(0, .ref (ad a0)), (1, .int p1), (2, .int p2), (3, .int p3), (4, .int x4)] [] := by
  refine g_iload (pc := 15) C d_Un_addRoot_15 4 rfl ?_
  refine g_if_le (pc := 17) C 99 d_Un_addRoot_17 rfl (fun e1 => ?_) (fun e1 => ?_)
  · have h := o_pos e1 h
    refine g_lv [0, 1, 2, 3, 4] rfl ?_
    exact w_Un_addRoot_99 C ha0 h
  · have h := o_neg e1 h
    refine g_iload_n (pc := 20) C d_Un_addRoot_20 rfl 1 rfl ?_
    refine g_aload_n (pc := 21) C d_Un_addRoot_21 rfl 0 rfl ?_
    obtain ⟨b2, hnb2, hb2, h⟩ := o_ra h
    refine g_get (pc := 22) (k := 7) (v := va_rf ((N a0 7).map ad)) C gcX9 inX9 (by decide) fl_Un_49 ha0 rfl d_Un_addRoot_22 ?_
    refine g_top (g_rf hnb2) ?_
    refine g_iload (pc := 25) C d_Un_addRoot_25 4 rfl ?_
    refine g_iconst (pc := 27) C (1 : Int32) d_Un_addRoot_27 (by decide) ?_
    refine g_isub (pc := 28) C d_Un_addRoot_28 ?_
    obtain ⟨hi3, h⟩ := o_gd h
    refine g_iald (pc := 29) C hb2 hi3 d_Un_addRoot_29 ?_
    refine g_imul (pc := 30) C d_Un_addRoot_30 ?_
    refine g_aload_n (pc := 31) C d_Un_addRoot_31 rfl 0 rfl ?_
    obtain ⟨b4, hnb4, hb4, h⟩ := o_ra h
    refine g_get (pc := 32) (k := 6) (v := va_rf ((N a0 6).map ad)) C gcX9 inX9 (by decide) fl_Un_45 ha0 rfl d_Un_addRoot_32 ?_
    refine g_top (g_rf hnb4) ?_
    refine g_iload (pc := 35) C d_Un_addRoot_35 4 rfl ?_
    refine g_iconst (pc := 37) C (1 : Int32) d_Un_addRoot_37 (by decide) ?_
    refine g_isub (pc := 38) C d_Un_addRoot_38 ?_
    obtain ⟨hi5, h⟩ := o_gd h
    refine g_iald (pc := 39) C hb4 hi5 d_Un_addRoot_39 ?_
    refine g_iload_n (pc := 40) C d_Un_addRoot_40 rfl 2 rfl ?_
    refine g_imul (pc := 41) C d_Un_addRoot_41 ?_
    refine g_icmp_ge (pc := 42) C 99 d_Un_addRoot_42 rfl (fun e6 => ?_) (fun e6 => ?_)
    · have h := o_pos e6 h
      refine g_lv [0, 1, 2, 3, 4] rfl ?_
      exact w_Un_addRoot_99 C ha0 h
    · have h := o_neg e6 h
      refine g_aload_n (pc := 45) C d_Un_addRoot_45 rfl 0 rfl ?_
      obtain ⟨b7, hnb7, hb7, h⟩ := o_ra h
      refine g_get (pc := 46) (k := 6) (v := va_rf ((N a0 6).map ad)) C gcX9 inX9 (by decide) fl_Un_45 ha0 rfl d_Un_addRoot_46 ?_
      refine g_top (g_rf hnb7) ?_
      refine g_iload (pc := 49) C d_Un_addRoot_49 4 rfl ?_
      refine g_aload_n (pc := 51) C d_Un_addRoot_51 rfl 0 rfl ?_
      obtain ⟨b8, hnb8, hb8, h⟩ := o_ra h
      refine g_get (pc := 52) (k := 6) (v := va_rf ((N a0 6).map ad)) C gcX9 inX9 (by decide) fl_Un_45 ha0 rfl d_Un_addRoot_52 ?_
      refine g_top (g_rf hnb8) ?_
      refine g_iload (pc := 55) C d_Un_addRoot_55 4 rfl ?_
      refine g_iconst (pc := 57) C (1 : Int32) d_Un_addRoot_57 (by decide) ?_
      refine g_isub (pc := 58) C d_Un_addRoot_58 ?_
      obtain ⟨hi9, h⟩ := o_gd h
      refine g_iald (pc := 59) C hb8 hi9 d_Un_addRoot_59 ?_
      obtain ⟨hi10, h⟩ := o_gd h
      refine g_iast (pc := 60) C hb7 hi10 d_Un_addRoot_60 ?_
      obtain ⟨I11, eI11, h⟩ := o_bd h
      rw [← eI11]
      refine g_aload_n (pc := 61) C d_Un_addRoot_61 rfl 0 rfl ?_
      obtain ⟨b12, hnb12, hb12, h⟩ := o_ra h
      refine g_get (pc := 62) (k := 7) (v := va_rf ((N a0 7).map ad)) C gcX9 inX9 (by decide) fl_Un_49 ha0 rfl d_Un_addRoot_62 ?_
      refine g_top (g_rf hnb12) ?_
      refine g_iload (pc := 65) C d_Un_addRoot_65 4 rfl ?_
      refine g_aload_n (pc := 67) C d_Un_addRoot_67 rfl 0 rfl ?_
      obtain ⟨b13, hnb13, hb13, h⟩ := o_ra h
      refine g_get (pc := 68) (k := 7) (v := va_rf ((N a0 7).map ad)) C gcX9 inX9 (by decide) fl_Un_49 ha0 rfl d_Un_addRoot_68 ?_
      refine g_top (g_rf hnb13) ?_
      refine g_iload (pc := 71) C d_Un_addRoot_71 4 rfl ?_
      refine g_iconst (pc := 73) C (1 : Int32) d_Un_addRoot_73 (by decide) ?_
      refine g_isub (pc := 74) C d_Un_addRoot_74 ?_
      obtain ⟨hi14, h⟩ := o_gd h
      refine g_iald (pc := 75) C hb13 hi14 d_Un_addRoot_75 ?_
      obtain ⟨hi15, h⟩ := o_gd h
      refine g_iast (pc := 76) C hb12 hi15 d_Un_addRoot_76 ?_
      obtain ⟨I16, eI16, h⟩ := o_bd h
      rw [← eI16]
      refine g_aload_n (pc := 77) C d_Un_addRoot_77 rfl 0 rfl ?_
      obtain ⟨b17, hnb17, hb17, h⟩ := o_ra h
      refine g_get (pc := 78) (k := 8) (v := va_rf ((N a0 8).map ad)) C gcX9 inX9 (by decide) fl_Un_52 ha0 rfl d_Un_addRoot_78 ?_
      refine g_top (g_rf hnb17) ?_
      refine g_iload (pc := 81) C d_Un_addRoot_81 4 rfl ?_
      refine g_aload_n (pc := 83) C d_Un_addRoot_83 rfl 0 rfl ?_
      obtain ⟨b18, hnb18, hb18, h⟩ := o_ra h
      refine g_get (pc := 84) (k := 8) (v := va_rf ((N a0 8).map ad)) C gcX9 inX9 (by decide) fl_Un_52 ha0 rfl d_Un_addRoot_84 ?_
      refine g_top (g_rf hnb18) ?_
      refine g_iload (pc := 87) C d_Un_addRoot_87 4 rfl ?_
      refine g_iconst (pc := 89) C (1 : Int32) d_Un_addRoot_89 (by decide) ?_
      refine g_isub (pc := 90) C d_Un_addRoot_90 ?_
      obtain ⟨hi19, h⟩ := o_gd h
      refine g_iald (pc := 91) C hb18 hi19 d_Un_addRoot_91 ?_
      obtain ⟨hi20, h⟩ := o_gd h
      refine g_iast (pc := 92) C hb17 hi20 d_Un_addRoot_92 ?_
      obtain ⟨I21, eI21, h⟩ := o_bd h
      rw [← eI21]
      refine g_iinc (pc := 93) (q := 4) (lv' := [(4, .int (x4 + (-1))), (0, .ref (ad a0)), (1, .int p1), (2, .int p2), (3, .int p3)]) C d_Un_addRoot_93 rfl rfl (by decide) rfl ?_
      refine g_goto (pc := 96) C 15 d_Un_addRoot_96 rfl ?_
      refine g_lv [1, 2, 3, 4, 0] rfl ?_
      exact hk15 _ _ h
set_option maxRecDepth 20000 in
theorem w_Un_addRoot_15 {X : HX} {ad : Nat → Nat} {J : HJ} {N : HN} {r : HI} {a0 : Nat} {p1 : Int32} {p2 : Int32} {p3 : Int32} (C : Cx X c_Un_addRoot RX9 5 none rm_Un_addRoot) (ha0 : gk Tc nC a0 (0, 9)) : ∀ (n : Nat) (I : HI) (x4 : Int32), Un_addRoot_15 N a0 p1 p2 p3 n I x4 = some r → G Tc X ad nC 0 0 I J N (gE X Tc ad nC (r, J, N, fun _ => none)) 15 5 [(0, .ref (ad a0)), (1, .int p1), (2, .int p2), (3, .int p3), (4, .int x4)] [] := by
  intro n
  induction n with
  | zero => intro I x4 h; cases h
  | succ n ih => intro I x4 h; exact w_Un_addRoot_15b C ha0 ih h
set_option maxRecDepth 20000 in
theorem w_Un_addRoot_0 {X : HX} {ad : Nat → Nat} {I : HI} {J : HJ} {N : HN} {r : HI} {a0 : Nat} {p1 : Int32} {p2 : Int32} {p3 : Int32} (C : Cx X c_Un_addRoot RX9 5 none rm_Un_addRoot) (ha0 : gk Tc nC a0 (0, 9))
    (h : Un_addRoot_0 N a0 p1 p2 p3 I = some r) : G Tc X ad nC 0 0 I J N (gE X Tc ad nC (r, J, N, fun _ => none)) 0 5 [(0, .ref (ad a0)), (1, .int p1), (2, .int p2), (3, .int p3)] [] := by
  refine g_aload_n (pc := 0) C d_Un_addRoot_0 rfl 0 rfl ?_
  refine g_get (pc := 1) (k := 9) (v := .int (I a0 9)) C gcX9 inX9 (by decide) fl_Un_55 ha0 rfl d_Un_addRoot_1 ?_
  refine g_iconst (pc := 4) C (3 : Int32) d_Un_addRoot_4 (by decide) ?_
  refine g_icmp_lt (pc := 5) C 9 d_Un_addRoot_5 rfl (fun e1 => ?_) (fun e1 => ?_)
  · have h := o_pos e1 h
    refine g_aload_n (pc := 9) C d_Un_addRoot_9 rfl 0 rfl ?_
    refine g_get (pc := 10) (k := 9) (v := .int (I a0 9)) C gcX9 inX9 (by decide) fl_Un_55 ha0 rfl d_Un_addRoot_10 ?_
    obtain ⟨v2, ev2, h⟩ := o_bd h
    refine g_topi ev2 ?_
    refine g_istore (pc := 13) (lv' := [(4, .int v2), (0, .ref (ad a0)), (1, .int p1), (2, .int p2), (3, .int p3)]) C d_Un_addRoot_13 (by decide) rfl ?_
    refine g_lv [1, 2, 3, 4, 0] rfl ?_
    exact w_Un_addRoot_15 C ha0 _ _ _ h
  · have h := o_neg e1 h
    obtain rfl := o_ret h
    exact g_vret (pc := 8) C d_Un_addRoot_8
set_option maxRecDepth 20000 in
theorem k_Un_addRoot (l : Launch) {I : HI} {J : HJ} {N : HN} {a0 : Nat} {p1 : Int32} {p2 : Int32} {p3 : Int32} {r : HI} (ha0 : gk Tc nC a0 (0, 9)) (h : Un_addRoot N a0 p1 p2 p3 I = some r) : gM l y_Un_addRoot c_Un_addRoot 5 none rm_Un_addRoot Tc nC I J N (fun ad => [.ref (ad a0), .int p1, .int p2, .int p3]) (r, J, N, fun _ => none) :=
  g_meth (lv := fun ad => [(0, .ref (ad a0)), (1, .int p1), (2, .int p2), (3, .int p3)]) (by decide) (fun _ => Nat.le_of_ble_eq_true rfl) (fun _ => rfl) (fun X ad C => g_lv [0, 1, 2, 3] rfl (w_Un_addRoot_0 C ha0 h))
theorem d_Un_findRoots_0 : decode c_Un_findRoots 0 = .ok (.aload_n 0, 1) := by decide +kernel
theorem d_Un_findRoots_1 : decode c_Un_findRoots 1 = .ok (.iconst 0, 1) := by decide +kernel
theorem d_Un_findRoots_2 : decode c_Un_findRoots 2 = .ok (.putfield 55, 3) := by decide +kernel
theorem d_Un_findRoots_5 : decode c_Un_findRoots 5 = .ok (.aload_n 0, 1) := by decide +kernel
theorem d_Un_findRoots_6 : decode c_Un_findRoots 6 = .ok (.getfield 31, 3) := by decide +kernel
theorem d_Un_findRoots_9 : decode c_Un_findRoots 9 = .ok (.aload_n 0, 1) := by decide +kernel
theorem d_Un_findRoots_10 : decode c_Un_findRoots 10 = .ok (.getfield 25, 3) := by decide +kernel
theorem d_Un_findRoots_13 : decode c_Un_findRoots 13 = .ok (.getfield 70, 3) := by decide +kernel
theorem d_Un_findRoots_16 : decode c_Un_findRoots 16 = .ok (.invokevirtual 154, 3) := by decide +kernel
theorem d_Un_findRoots_19 : decode c_Un_findRoots 19 = .ok (.bipush (-9), 2) := by decide +kernel
theorem d_Un_findRoots_21 : decode c_Un_findRoots 21 = .ok (.istore_n 1, 1) := by decide +kernel
theorem d_Un_findRoots_22 : decode c_Un_findRoots 22 = .ok (.iload_n 1, 1) := by decide +kernel
theorem d_Un_findRoots_23 : decode c_Un_findRoots 23 = .ok (.bipush 9, 2) := by decide +kernel
theorem d_Un_findRoots_25 : decode c_Un_findRoots 25 = .ok (.if_icmp .gt 70, 3) := by decide +kernel
theorem d_Un_findRoots_28 : decode c_Un_findRoots 28 = .ok (.iconst 1, 1) := by decide +kernel
theorem d_Un_findRoots_29 : decode c_Un_findRoots 29 = .ok (.istore_n 2, 1) := by decide +kernel
theorem d_Un_findRoots_30 : decode c_Un_findRoots 30 = .ok (.iload_n 2, 1) := by decide +kernel
theorem d_Un_findRoots_31 : decode c_Un_findRoots 31 = .ok (.bipush 9, 2) := by decide +kernel
theorem d_Un_findRoots_33 : decode c_Un_findRoots 33 = .ok (.if_icmp .gt 56, 3) := by decide +kernel
theorem d_Un_findRoots_36 : decode c_Un_findRoots 36 = .ok (.iload_n 1, 1) := by decide +kernel
theorem d_Un_findRoots_37 : decode c_Un_findRoots 37 = .ok (.ifCond .eq 46, 3) := by decide +kernel
theorem d_Un_findRoots_40 : decode c_Un_findRoots 40 = .ok (.aload_n 0, 1) := by decide +kernel
theorem d_Un_findRoots_41 : decode c_Un_findRoots 41 = .ok (.getfield 25, 3) := by decide +kernel
theorem d_Un_findRoots_44 : decode c_Un_findRoots 44 = .ok (.getfield 70, 3) := by decide +kernel
theorem d_Un_findRoots_47 : decode c_Un_findRoots 47 = .ok (.iload_n 1, 1) := by decide +kernel
theorem d_Un_findRoots_48 : decode c_Un_findRoots 48 = .ok (.i2l, 1) := by decide +kernel
theorem d_Un_findRoots_49 : decode c_Un_findRoots 49 = .ok (.iload_n 2, 1) := by decide +kernel
theorem d_Un_findRoots_50 : decode c_Un_findRoots 50 = .ok (.i2l, 1) := by decide +kernel
theorem d_Un_findRoots_51 : decode c_Un_findRoots 51 = .ok (.invokevirtual 157, 3) := by decide +kernel
theorem d_Un_findRoots_54 : decode c_Un_findRoots 54 = .ok (.lconst 0, 1) := by decide +kernel
theorem d_Un_findRoots_55 : decode c_Un_findRoots 55 = .ok (.lcmp, 1) := by decide +kernel
theorem d_Un_findRoots_56 : decode c_Un_findRoots 56 = .ok (.ifCond .ne 27, 3) := by decide +kernel
theorem d_Un_findRoots_59 : decode c_Un_findRoots 59 = .ok (.iload_n 1, 1) := by decide +kernel
theorem d_Un_findRoots_60 : decode c_Un_findRoots 60 = .ok (.i2l, 1) := by decide +kernel
theorem d_Un_findRoots_61 : decode c_Un_findRoots 61 = .ok (.iload_n 2, 1) := by decide +kernel
theorem d_Un_findRoots_62 : decode c_Un_findRoots 62 = .ok (.i2l, 1) := by decide +kernel
theorem d_Un_findRoots_63 : decode c_Un_findRoots 63 = .ok (.invokestatic 161, 3) := by decide +kernel
theorem d_Un_findRoots_66 : decode c_Un_findRoots 66 = .ok (.lconst 1, 1) := by decide +kernel
theorem d_Un_findRoots_67 : decode c_Un_findRoots 67 = .ok (.lcmp, 1) := by decide +kernel
theorem d_Un_findRoots_68 : decode c_Un_findRoots 68 = .ok (.ifCond .ne 15, 3) := by decide +kernel
theorem d_Un_findRoots_71 : decode c_Un_findRoots 71 = .ok (.aload_n 0, 1) := by decide +kernel
theorem d_Un_findRoots_72 : decode c_Un_findRoots 72 = .ok (.iload_n 1, 1) := by decide +kernel
theorem d_Un_findRoots_73 : decode c_Un_findRoots 73 = .ok (.iload_n 2, 1) := by decide +kernel
theorem d_Un_findRoots_74 : decode c_Un_findRoots 74 = .ok (.aload_n 0, 1) := by decide +kernel
theorem d_Un_findRoots_75 : decode c_Un_findRoots 75 = .ok (.iload_n 1, 1) := by decide +kernel
theorem d_Un_findRoots_76 : decode c_Un_findRoots 76 = .ok (.iload_n 2, 1) := by decide +kernel
theorem d_Un_findRoots_77 : decode c_Un_findRoots 77 = .ok (.invokevirtual 164, 3) := by decide +kernel
theorem d_Un_findRoots_80 : decode c_Un_findRoots 80 = .ok (.invokevirtual 167, 3) := by decide +kernel
theorem d_Un_findRoots_83 : decode c_Un_findRoots 83 = .ok (.iinc 2 1, 3) := by decide +kernel
theorem d_Un_findRoots_86 : decode c_Un_findRoots 86 = .ok (.goto (-56), 3) := by decide +kernel
theorem d_Un_findRoots_89 : decode c_Un_findRoots 89 = .ok (.iinc 1 1, 3) := by decide +kernel
theorem d_Un_findRoots_92 : decode c_Un_findRoots 92 = .ok (.goto (-70), 3) := by decide +kernel
theorem d_Un_findRoots_95 : decode c_Un_findRoots 95 = .ok (.return_, 1) := by decide +kernel
set_option maxRecDepth 20000 in
theorem w_Un_findRoots_83 {X : HX} {ad : Nat → Nat} {I : HI} {J : HJ} {N : HN} {r : HI × HJ} {k22 : HI → HJ → Int32 → Option (HI × HJ)} {k30 : HI → HJ → Int32 → Int32 → Option (HI × HJ)} {a0 : Nat} {x1 : Int32} {x2 : Int32} (C : Cx X c_Un_findRoots RX9 3 none rm_Un_findRoots) (ha0 : gk Tc nC a0 (0, 9))
    (hk22 : ∀ (I : HI) (J : HJ) (x1 : Int32), k22 I J x1 = some r → G Tc X ad nC 0 0 I J N (gE X Tc ad nC (r.1, r.2, N, fun _ => none)) 22 3 [(0, .ref (ad a0)), (1, .int x1)] [])
    (hk30 : ∀ (I : HI) (J : HJ) (x1 : Int32) (x2 : Int32), k30 I J x1 x2 = some r → G Tc X ad nC 0 0 I J N (gE X Tc ad nC (r.1, r.2, N, fun _ => none)) 30 3 [(0, .ref (ad a0)), (1, .int x1), (2, .int x2)] [])
    (h : Un_findRoots_83 N a0 k22 k30 I J x1 x2 = some r) : G Tc X ad nC 0 0 I J N (gE X Tc ad nC (r.1, r.2, N, fun _ => none)) 83 3 [(0, .ref (ad a0)), (1, .int x1), (2, .int x2)] [] := by
  refine g_iinc (pc := 83) (q := 2) (lv' := [(2, .int (x2 + 1)), (0, .ref (ad a0)), (1, .int x1)]) C d_Un_findRoots_83 rfl rfl (by decide) rfl ?_
  refine g_goto (pc := 86) C 30 d_Un_findRoots_86 rfl ?_
  refine g_lv [1, 2, 0] rfl ?_
  exact hk30 _ _ _ _ h
set_option maxRecDepth 20000 in
theorem w_Un_findRoots_30b {X : HX} {ad : Nat → Nat} {I : HI} {J : HJ} {N : HN} {r : HI × HJ} {k22 : HI → HJ → Int32 → Option (HI × HJ)} {k30 : HI → HJ → Int32 → Int32 → Option (HI × HJ)} {a0 : Nat} {x1 : Int32} {x2 : Int32} (C : Cx X c_Un_findRoots RX9 3 none rm_Un_findRoots) (ha0 : gk Tc nC a0 (0, 9))
    (hk22 : ∀ (I : HI) (J : HJ) (x1 : Int32), k22 I J x1 = some r → G Tc X ad nC 0 0 I J N (gE X Tc ad nC (r.1, r.2, N, fun _ => none)) 22 3 [(0, .ref (ad a0)), (1, .int x1)] [])
    (hk30 : ∀ (I : HI) (J : HJ) (x1 : Int32) (x2 : Int32), k30 I J x1 x2 = some r → G Tc X ad nC 0 0 I J N (gE X Tc ad nC (r.1, r.2, N, fun _ => none)) 30 3 [(0, .ref (ad a0)), (1, .int x1), (2, .int x2)] [])
    (h : Un_findRoots_30b N a0 k22 k30 I J x1 x2 = some r) : G Tc X ad nC 0 0 I J N (gE X Tc ad nC (r.1, r.2, N, fun _ => none)) 30 3 [(0, .ref (ad a0)), (1, .int x1), (2, .int x2)] [] := by
  refine g_iload_n (pc := 30) C d_Un_findRoots_30 rfl 2 rfl ?_
  refine g_bipush (pc := 31) C (9 : Int32) d_Un_findRoots_31 (by decide) ?_
  refine g_icmp_gt (pc := 33) C 89 d_Un_findRoots_33 rfl (fun e1 => ?_) (fun e1 => ?_)
  · have h := o_pos e1 h
    refine g_iinc (pc := 89) (q := 1) (lv' := [(1, .int (x1 + 1)), (0, .ref (ad a0)), (2, .int x2)]) C d_Un_findRoots_89 rfl rfl (by decide) rfl ?_
    refine g_goto (pc := 92) C 22 d_Un_findRoots_92 rfl ?_
    refine g_lv [1, 0] rfl ?_
    exact hk22 _ _ _ h
  · have h := o_neg e1 h
    refine g_iload_n (pc := 36) C d_Un_findRoots_36 rfl 1 rfl ?_
    refine g_if_eq (pc := 37) C 83 d_Un_findRoots_37 rfl (fun e2 => ?_) (fun e2 => ?_)
    · have h := o_pos e2 h
      refine g_lv [0, 1, 2] rfl ?_
      exact w_Un_findRoots_83 C ha0 hk22 hk30 h
    · have h := o_neg e2 h
      refine g_aload_n (pc := 40) C d_Un_findRoots_40 rfl 0 rfl ?_
      obtain ⟨b3, hnb3, hb3, h⟩ := o_rq h
      refine g_get (pc := 41) (k := 2) (v := va_rf ((N a0 2).map ad)) C gcX9 inX9 (by decide) fl_Un_25 ha0 rfl d_Un_findRoots_41 ?_
      refine g_top (g_rf hnb3) ?_
      obtain ⟨b4, hnb4, hb4, h⟩ := o_rq h
      refine g_getN (pc := 44) (k := 1) (v := va_rf ((N b3 1).map ad)) C gcX5 inX5 (by decide) fl_Un_70 hb3 rfl d_Un_findRoots_44 ?_
      refine g_top (g_rf hnb4) ?_
      refine g_iload_n (pc := 47) C d_Un_findRoots_47 rfl 1 rfl ?_
      refine g_i2l (pc := 48) C d_Un_findRoots_48 ?_
      refine g_iload_n (pc := 49) C d_Un_findRoots_49 rfl 2 rfl ?_
      refine g_i2l (pc := 50) C d_Un_findRoots_50 ?_
      obtain ⟨r5, hc6, h⟩ := o_bn1 h
      refine g_V (pc := 51) (rest := []) C (k_Po_valueAtMinus (xl X) hb4 hc6) sm_Po_valueAtMinus ml_Un_157 im_Po_valueAtMinus se_Po_valueAtMinus gcX6 rfl hb4 ⟨rfl, rfl, Nat.le_of_ble_eq_true rfl, Nat.le_of_ble_eq_true rfl⟩ ⟨Nat.zero_le _, Nat.zero_le _⟩ rfl rfl (Nat.le_of_ble_eq_true rfl) d_Un_findRoots_51 [.long r5] rfl ?_
      refine g_lconst (pc := 54) C (0 : Int64) d_Un_findRoots_54 (by decide) ?_
      refine g_lcmp_ne (pc := 55) C 83 d_Un_findRoots_55 d_Un_findRoots_56 rfl (fun e7 => ?_) (fun e7 => ?_)
      · have h := o_neg e7 h
        refine g_lv [0, 1, 2] rfl ?_
        exact w_Un_findRoots_83 C ha0 hk22 hk30 h
      · have h := o_pos e7 h
        refine g_iload_n (pc := 59) C d_Un_findRoots_59 rfl 1 rfl ?_
        refine g_i2l (pc := 60) C d_Un_findRoots_60 ?_
        refine g_iload_n (pc := 61) C d_Un_findRoots_61 rfl 2 rfl ?_
        refine g_i2l (pc := 62) C d_Un_findRoots_62 ?_
        obtain ⟨r8, hc9, h⟩ := o_bn1 h
        refine g_SN (pc := 63) (rest := []) C (k_Lm_commonDivisor (xl X)  hc9) sm_Lm_commonDivisor ml_Un_161 st_Lm_commonDivisor ⟨rfl, rfl, Nat.le_of_ble_eq_true rfl, Nat.le_of_ble_eq_true rfl⟩ ⟨Nat.zero_le _, Nat.zero_le _⟩ rfl rfl (Nat.le_of_ble_eq_true rfl) d_Un_findRoots_63 [.long r8] rfl ?_
        refine g_lconst (pc := 66) C (1 : Int64) d_Un_findRoots_66 (by decide) ?_
        refine g_lcmp_ne (pc := 67) C 83 d_Un_findRoots_67 d_Un_findRoots_68 rfl (fun e10 => ?_) (fun e10 => ?_)
        · have h := o_neg e10 h
          refine g_lv [0, 1, 2] rfl ?_
          exact w_Un_findRoots_83 C ha0 hk22 hk30 h
        · have h := o_pos e10 h
          refine g_aload_n (pc := 71) C d_Un_findRoots_71 rfl 0 rfl ?_
          refine g_iload_n (pc := 72) C d_Un_findRoots_72 rfl 1 rfl ?_
          refine g_iload_n (pc := 73) C d_Un_findRoots_73 rfl 2 rfl ?_
          refine g_aload_n (pc := 74) C d_Un_findRoots_74 rfl 0 rfl ?_
          refine g_iload_n (pc := 75) C d_Un_findRoots_75 rfl 1 rfl ?_
          refine g_iload_n (pc := 76) C d_Un_findRoots_76 rfl 2 rfl ?_
          obtain ⟨J11, r12, hc13, h⟩ := o_bn2 h
          refine g_V (pc := 77) (rest := [.int x2, .int x1, .ref (ad a0)]) C (k_Un_timesInRest (xl X) ha0 hc13) sm_Un_timesInRest ml_Un_164 im_Un_timesInRest se_Un_timesInRest gcX9 rfl ha0 ⟨rfl, rfl, Nat.le_of_ble_eq_true rfl, Nat.le_of_ble_eq_true rfl⟩ ⟨Nat.zero_le _, Nat.zero_le _⟩ rfl rfl (Nat.le_of_ble_eq_true rfl) d_Un_findRoots_77 [.int r12, .int x2, .int x1, .ref (ad a0)] rfl ?_
          obtain ⟨I14, hc15, h⟩ := o_bn1 h
          refine g_V (pc := 80) (rest := []) C (k_Un_addRoot (xl X) ha0 hc15) sm_Un_addRoot ml_Un_167 im_Un_addRoot se_Un_addRoot gcX9 rfl ha0 ⟨rfl, rfl, Nat.le_of_ble_eq_true rfl, Nat.le_of_ble_eq_true rfl⟩ ⟨Nat.zero_le _, Nat.zero_le _⟩ rfl rfl (Nat.le_of_ble_eq_true rfl) d_Un_findRoots_80 [] rfl ?_
          refine g_lv [0, 1, 2] rfl ?_
          exact w_Un_findRoots_83 C ha0 hk22 hk30 h
set_option maxRecDepth 20000 in
theorem w_Un_findRoots_30 {X : HX} {ad : Nat → Nat} {N : HN} {r : HI × HJ} {k22 : HI → HJ → Int32 → Option (HI × HJ)} {a0 : Nat} (C : Cx X c_Un_findRoots RX9 3 none rm_Un_findRoots) (ha0 : gk Tc nC a0 (0, 9))
    (hk22 : ∀ (I : HI) (J : HJ) (x1 : Int32), k22 I J x1 = some r → G Tc X ad nC 0 0 I J N (gE X Tc ad nC (r.1, r.2, N, fun _ => none)) 22 3 [(0, .ref (ad a0)), (1, .int x1)] []) : ∀ (n : Nat) (I : HI) (J : HJ) (x1 : Int32) (x2 : Int32), Un_findRoots_30 N a0 k22 n I J x1 x2 = some r → G Tc X ad nC 0 0 I J N (gE X Tc ad nC (r.1, r.2, N, fun _ => none)) 30 3 [(0, .ref (ad a0)), (1, .int x1), (2, .int x2)] [] := by
  intro n
  induction n with
  | zero => intro I J x1 x2 h; cases h
  | succ n ih => intro I J x1 x2 h; exact w_Un_findRoots_30b C ha0 hk22 ih h
set_option maxRecDepth 20000 in
theorem w_Un_findRoots_22b {X : HX} {ad : Nat → Nat} {I : HI} {J : HJ} {N : HN} {r : HI × HJ} {k22 : HI → HJ → Int32 → Option (HI × HJ)} {a0 : Nat} {x1 : Int32} (C : Cx X c_Un_findRoots RX9 3 none rm_Un_findRoots) (ha0 : gk Tc nC a0 (0, 9))
    (hk22 : ∀ (I : HI) (J : HJ) (x1 : Int32), k22 I J x1 = some r → G Tc X ad nC 0 0 I J N (gE X Tc ad nC (r.1, r.2, N, fun _ => none)) 22 3 [(0, .ref (ad a0)), (1, .int x1)] [])
    (h : Un_findRoots_22b N a0 k22 I J x1 = some r) : G Tc X ad nC 0 0 I J N (gE X Tc ad nC (r.1, r.2, N, fun _ => none)) 22 3 [(0, .ref (ad a0)), (1, .int x1)] [] := by
  refine g_iload_n (pc := 22) C d_Un_findRoots_22 rfl 1 rfl ?_
  refine g_bipush (pc := 23) C (9 : Int32) d_Un_findRoots_23 (by decide) ?_
  refine g_icmp_gt (pc := 25) C 95 d_Un_findRoots_25 rfl (fun e1 => ?_) (fun e1 => ?_)
  · have h := o_pos e1 h
    obtain rfl := o_ret h
    exact g_vret (pc := 95) C d_Un_findRoots_95
  · have h := o_neg e1 h
    refine g_iconst (pc := 28) C (1 : Int32) d_Un_findRoots_28 (by decide) ?_
    refine g_istore_n (pc := 29) (lv' := [(2, .int (1 : Int32)), (0, .ref (ad a0)), (1, .int x1)]) C d_Un_findRoots_29 rfl (by decide) rfl ?_
    refine g_lv [1, 2, 0] rfl ?_
    exact w_Un_findRoots_30 C ha0 hk22 _ _ _ _ _ h
set_option maxRecDepth 20000 in
theorem w_Un_findRoots_22 {X : HX} {ad : Nat → Nat} {N : HN} {r : HI × HJ} {a0 : Nat} (C : Cx X c_Un_findRoots RX9 3 none rm_Un_findRoots) (ha0 : gk Tc nC a0 (0, 9)) : ∀ (n : Nat) (I : HI) (J : HJ) (x1 : Int32), Un_findRoots_22 N a0 n I J x1 = some r → G Tc X ad nC 0 0 I J N (gE X Tc ad nC (r.1, r.2, N, fun _ => none)) 22 3 [(0, .ref (ad a0)), (1, .int x1)] [] := by
  intro n
  induction n with
  | zero => intro I J x1 h; cases h
  | succ n ih => intro I J x1 h; exact w_Un_findRoots_22b C ha0 ih h
set_option maxRecDepth 20000 in
theorem w_Un_findRoots_0 {X : HX} {ad : Nat → Nat} {I : HI} {J : HJ} {N : HN} {r : HI × HJ} {a0 : Nat} (C : Cx X c_Un_findRoots RX9 3 none rm_Un_findRoots) (ha0 : gk Tc nC a0 (0, 9))
    (h : Un_findRoots_0 N a0 I J = some r) : G Tc X ad nC 0 0 I J N (gE X Tc ad nC (r.1, r.2, N, fun _ => none)) 0 3 [(0, .ref (ad a0))] [] := by
  refine g_aload_n (pc := 0) C d_Un_findRoots_0 rfl 0 rfl ?_
  refine g_iconst (pc := 1) C (0 : Int32) d_Un_findRoots_1 (by decide) ?_
  refine g_put (pc := 2) (I' := up2 I a0 9 (0 : Int32)) (J' := J) (N' := N) (k := 9) C gcX9 inX9 tyX9_ok nmX9 (by decide) fl_Un_55 rfl ha0 (tyX9_ok 9 (by decide)) rfl rfl (Nat.le_of_ble_eq_true rfl) gs_9_9 (fun b hb => up2_of hb) (fun _ _ => rfl) (fun _ _ => rfl) d_Un_findRoots_2 ?_
  obtain ⟨I1, eI1, h⟩ := o_bd h
  rw [← eI1]
  refine g_aload_n (pc := 5) C d_Un_findRoots_5 rfl 0 rfl ?_
  obtain ⟨b2, hnb2, hb2, h⟩ := o_rq h
  refine g_get (pc := 6) (k := 3) (v := va_rf ((N a0 3).map ad)) C gcX9 inX9 (by decide) fl_Un_31 ha0 rfl d_Un_findRoots_6 ?_
  refine g_top (g_rf hnb2) ?_
  refine g_aload_n (pc := 9) C d_Un_findRoots_9 rfl 0 rfl ?_
  obtain ⟨b3, hnb3, hb3, h⟩ := o_rq h
  refine g_get (pc := 10) (k := 2) (v := va_rf ((N a0 2).map ad)) C gcX9 inX9 (by decide) fl_Un_25 ha0 rfl d_Un_findRoots_10 ?_
  refine g_top (g_rf hnb3) ?_
  obtain ⟨b4, hnb4, hb4, h⟩ := o_rq h
  refine g_getN (pc := 13) (k := 1) (v := va_rf ((N b3 1).map ad)) C gcX5 inX5 (by decide) fl_Un_70 hb3 rfl d_Un_findRoots_13 ?_
  refine g_top (g_rf hnb4) ?_
  obtain ⟨J5, hc6, h⟩ := o_bn1 h
  refine g_V (pc := 16) (rest := []) C (k_Po_load (xl X) hb2 hb4 hc6) sm_Po_load ml_Un_154 im_Po_load se_Po_load gcX6 rfl hb2 ⟨rfl, rfl, Nat.le_of_ble_eq_true rfl, Nat.le_of_ble_eq_true rfl⟩ ⟨Nat.zero_le _, Nat.zero_le _⟩ rfl rfl (Nat.le_of_ble_eq_true rfl) d_Un_findRoots_16 [] rfl ?_
  refine g_bipush (pc := 19) C (-9 : Int32) d_Un_findRoots_19 (by decide) ?_
  refine g_istore_n (pc := 21) (lv' := [(1, .int (-9 : Int32)), (0, .ref (ad a0))]) C d_Un_findRoots_21 rfl (by decide) rfl ?_
  refine g_lv [1, 0] rfl ?_
  exact w_Un_findRoots_22 C ha0 _ _ _ _ h
set_option maxRecDepth 20000 in
theorem k_Un_findRoots (l : Launch) {I : HI} {J : HJ} {N : HN} {a0 : Nat} {r : HI × HJ} (ha0 : gk Tc nC a0 (0, 9)) (h : Un_findRoots N a0 I J = some r) : gM l y_Un_findRoots c_Un_findRoots 3 none rm_Un_findRoots Tc nC I J N (fun ad => [.ref (ad a0)]) (r.1, r.2, N, fun _ => none) :=
  g_meth (lv := fun ad => [(0, .ref (ad a0))]) (by decide) (fun _ => Nat.le_of_ble_eq_true rfl) (fun _ => rfl) (fun X ad C => g_lv [0] rfl (w_Un_findRoots_0 C ha0 h))
theorem d_Un_poleAtGreatest_0 : decode c_Un_poleAtGreatest 0 = .ok (.aload_n 0, 1) := by decide +kernel
theorem d_Un_poleAtGreatest_1 : decode c_Un_poleAtGreatest 1 = .ok (.getfield 25, 3) := by decide +kernel
theorem d_Un_poleAtGreatest_4 : decode c_Un_poleAtGreatest 4 = .ok (.getfield 63, 3) := by decide +kernel
theorem d_Un_poleAtGreatest_7 : decode c_Un_poleAtGreatest 7 = .ok (.invokevirtual 76, 3) := by decide +kernel
theorem d_Un_poleAtGreatest_10 : decode c_Un_poleAtGreatest 10 = .ok (.istore_n 2, 1) := by decide +kernel
theorem d_Un_poleAtGreatest_11 : decode c_Un_poleAtGreatest 11 = .ok (.aload_n 0, 1) := by decide +kernel
theorem d_Un_poleAtGreatest_12 : decode c_Un_poleAtGreatest 12 = .ok (.getfield 25, 3) := by decide +kernel
theorem d_Un_poleAtGreatest_15 : decode c_Un_poleAtGreatest 15 = .ok (.getfield 70, 3) := by decide +kernel
theorem d_Un_poleAtGreatest_18 : decode c_Un_poleAtGreatest 18 = .ok (.invokevirtual 76, 3) := by decide +kernel
theorem d_Un_poleAtGreatest_21 : decode c_Un_poleAtGreatest 21 = .ok (.istore_n 3, 1) := by decide +kernel
theorem d_Un_poleAtGreatest_22 : decode c_Un_poleAtGreatest 22 = .ok (.iload_n 2, 1) := by decide +kernel
theorem d_Un_poleAtGreatest_23 : decode c_Un_poleAtGreatest 23 = .ok (.iload_n 3, 1) := by decide +kernel
theorem d_Un_poleAtGreatest_24 : decode c_Un_poleAtGreatest 24 = .ok (.if_icmp .gt 5, 3) := by decide +kernel
theorem d_Un_poleAtGreatest_27 : decode c_Un_poleAtGreatest 27 = .ok (.iconst 0, 1) := by decide +kernel
theorem d_Un_poleAtGreatest_28 : decode c_Un_poleAtGreatest 28 = .ok (.ireturn, 1) := by decide +kernel
theorem d_Un_poleAtGreatest_29 : decode c_Un_poleAtGreatest 29 = .ok (.aload_n 0, 1) := by decide +kernel
theorem d_Un_poleAtGreatest_30 : decode c_Un_poleAtGreatest 30 = .ok (.getfield 38, 3) := by decide +kernel
theorem d_Un_poleAtGreatest_33 : decode c_Un_poleAtGreatest 33 = .ok (.aload_n 0, 1) := by decide +kernel
theorem d_Un_poleAtGreatest_34 : decode c_Un_poleAtGreatest 34 = .ok (.getfield 25, 3) := by decide +kernel
theorem d_Un_poleAtGreatest_37 : decode c_Un_poleAtGreatest 37 = .ok (.getfield 63, 3) := by decide +kernel
theorem d_Un_poleAtGreatest_40 : decode c_Un_poleAtGreatest 40 = .ok (.iload_n 2, 1) := by decide +kernel
theorem d_Un_poleAtGreatest_41 : decode c_Un_poleAtGreatest 41 = .ok (.invokevirtual 80, 3) := by decide +kernel
theorem d_Un_poleAtGreatest_44 : decode c_Un_poleAtGreatest 44 = .ok (.aload_n 0, 1) := by decide +kernel
theorem d_Un_poleAtGreatest_45 : decode c_Un_poleAtGreatest 45 = .ok (.getfield 25, 3) := by decide +kernel
theorem d_Un_poleAtGreatest_48 : decode c_Un_poleAtGreatest 48 = .ok (.getfield 70, 3) := by decide +kernel
theorem d_Un_poleAtGreatest_51 : decode c_Un_poleAtGreatest 51 = .ok (.iload_n 3, 1) := by decide +kernel
theorem d_Un_poleAtGreatest_52 : decode c_Un_poleAtGreatest 52 = .ok (.invokevirtual 80, 3) := by decide +kernel
theorem d_Un_poleAtGreatest_55 : decode c_Un_poleAtGreatest 55 = .ok (.invokevirtual 84, 3) := by decide +kernel
theorem d_Un_poleAtGreatest_58 : decode c_Un_poleAtGreatest 58 = .ok (.iload_n 2, 1) := by decide +kernel
theorem d_Un_poleAtGreatest_59 : decode c_Un_poleAtGreatest 59 = .ok (.iload_n 3, 1) := by decide +kernel
theorem d_Un_poleAtGreatest_60 : decode c_Un_poleAtGreatest 60 = .ok (.iconst 1, 1) := by decide +kernel
theorem d_Un_poleAtGreatest_61 : decode c_Un_poleAtGreatest 61 = .ok (.iadd, 1) := by decide +kernel
theorem d_Un_poleAtGreatest_62 : decode c_Un_poleAtGreatest 62 = .ok (.if_icmp .gt 15, 3) := by decide +kernel
theorem d_Un_poleAtGreatest_65 : decode c_Un_poleAtGreatest 65 = .ok (.aload_n 0, 1) := by decide +kernel
theorem d_Un_poleAtGreatest_66 : decode c_Un_poleAtGreatest 66 = .ok (.getfield 38, 3) := by decide +kernel
theorem d_Un_poleAtGreatest_69 : decode c_Un_poleAtGreatest 69 = .ok (.getfield 88, 3) := by decide +kernel
theorem d_Un_poleAtGreatest_72 : decode c_Un_poleAtGreatest 72 = .ok (.lconst 0, 1) := by decide +kernel
theorem d_Un_poleAtGreatest_73 : decode c_Un_poleAtGreatest 73 = .ok (.lcmp, 1) := by decide +kernel
theorem d_Un_poleAtGreatest_74 : decode c_Un_poleAtGreatest 74 = .ok (.ifCond .gt 8, 3) := by decide +kernel
theorem d_Un_poleAtGreatest_77 : decode c_Un_poleAtGreatest 77 = .ok (.iconst 0, 1) := by decide +kernel
theorem d_Un_poleAtGreatest_78 : decode c_Un_poleAtGreatest 78 = .ok (.invokestatic 91, 3) := by decide +kernel
theorem d_Un_poleAtGreatest_81 : decode c_Un_poleAtGreatest 81 = .ok (.ireturn, 1) := by decide +kernel
theorem d_Un_poleAtGreatest_82 : decode c_Un_poleAtGreatest 82 = .ok (.aload_n 0, 1) := by decide +kernel
theorem d_Un_poleAtGreatest_83 : decode c_Un_poleAtGreatest 83 = .ok (.getfield 38, 3) := by decide +kernel
theorem d_Un_poleAtGreatest_86 : decode c_Un_poleAtGreatest 86 = .ok (.invokevirtual 95, 3) := by decide +kernel
theorem d_Un_poleAtGreatest_89 : decode c_Un_poleAtGreatest 89 = .ok (.ifCond .ne 6, 3) := by decide +kernel
theorem d_Un_poleAtGreatest_92 : decode c_Un_poleAtGreatest 92 = .ok (.bipush (-5), 2) := by decide +kernel
theorem d_Un_poleAtGreatest_94 : decode c_Un_poleAtGreatest 94 = .ok (.ireturn, 1) := by decide +kernel
theorem d_Un_poleAtGreatest_95 : decode c_Un_poleAtGreatest 95 = .ok (.aload_n 0, 1) := by decide +kernel
theorem d_Un_poleAtGreatest_96 : decode c_Un_poleAtGreatest 96 = .ok (.iload_n 1, 1) := by decide +kernel
theorem d_Un_poleAtGreatest_97 : decode c_Un_poleAtGreatest 97 = .ok (.invokevirtual 99, 3) := by decide +kernel
theorem d_Un_poleAtGreatest_100 : decode c_Un_poleAtGreatest 100 = .ok (.iconst 0, 1) := by decide +kernel
theorem d_Un_poleAtGreatest_101 : decode c_Un_poleAtGreatest 101 = .ok (.ireturn, 1) := by decide +kernel
set_option maxRecDepth 20000 in
theorem w_Un_poleAtGreatest_77 {X : HX} {ad : Nat → Nat} {I : HI} {J : HJ} {N : HN} {r : HI × HJ × Int32} {a0 : Nat} {p1 : Int32} (C : Cx X c_Un_poleAtGreatest RX9 4 (some .int) rm_Un_poleAtGreatest) (ha0 : gk Tc nC a0 (0, 9))
    (h : Un_poleAtGreatest_77 N a0 p1 I J = some r) : G Tc X ad nC 0 0 I J N (gE X Tc ad nC (r.1, r.2.1, N, fun _ => some (.int r.2.2))) 77 4 [] [] := by
  refine g_iconst (pc := 77) C (0 : Int32) d_Un_poleAtGreatest_77 (by decide) ?_
  obtain ⟨r1, hc2, h⟩ := o_bn1 h
  refine g_S (pc := 78) (rest := []) C (k_Un_unlawful (xl X)  hc2) sm_Un_unlawful ml_Un_91 st_Un_unlawful ⟨rfl, rfl, Nat.le_of_ble_eq_true rfl, Nat.le_of_ble_eq_true rfl⟩ ⟨Nat.zero_le _, Nat.zero_le _⟩ rfl rfl (Nat.le_of_ble_eq_true rfl) d_Un_poleAtGreatest_78 [.int r1] rfl ?_
  obtain rfl := o_ret h
  exact g_iret (pc := 81) C d_Un_poleAtGreatest_81
set_option maxRecDepth 20000 in
theorem w_Un_poleAtGreatest_0 {X : HX} {ad : Nat → Nat} {I : HI} {J : HJ} {N : HN} {r : HI × HJ × Int32} {a0 : Nat} {p1 : Int32} (C : Cx X c_Un_poleAtGreatest RX9 4 (some .int) rm_Un_poleAtGreatest) (ha0 : gk Tc nC a0 (0, 9))
    (h : Un_poleAtGreatest_0 N a0 p1 I J = some r) : G Tc X ad nC 0 0 I J N (gE X Tc ad nC (r.1, r.2.1, N, fun _ => some (.int r.2.2))) 0 4 [(0, .ref (ad a0)), (1, .int p1)] [] := by
  refine g_aload_n (pc := 0) C d_Un_poleAtGreatest_0 rfl 0 rfl ?_
  obtain ⟨b1, hnb1, hb1, h⟩ := o_rq h
  refine g_get (pc := 1) (k := 2) (v := va_rf ((N a0 2).map ad)) C gcX9 inX9 (by decide) fl_Un_25 ha0 rfl d_Un_poleAtGreatest_1 ?_
  refine g_top (g_rf hnb1) ?_
  obtain ⟨b2, hnb2, hb2, h⟩ := o_rq h
  refine g_getN (pc := 4) (k := 0) (v := va_rf ((N b1 0).map ad)) C gcX5 inX5 (by decide) fl_Un_63 hb1 rfl d_Un_poleAtGreatest_4 ?_
  refine g_top (g_rf hnb2) ?_
  obtain ⟨r3, hc4, h⟩ := o_bn1 h
  refine g_V (pc := 7) (rest := []) C (k_Po_degree (xl X) hb2 hc4) sm_Po_degree ml_Un_76 im_Po_degree se_Po_degree gcX6 rfl hb2 ⟨rfl, rfl, Nat.le_of_ble_eq_true rfl, Nat.le_of_ble_eq_true rfl⟩ ⟨Nat.zero_le _, Nat.zero_le _⟩ rfl rfl (Nat.le_of_ble_eq_true rfl) d_Un_poleAtGreatest_7 [.int r3] rfl ?_
  refine g_istore_n (pc := 10) (lv' := [(2, .int r3), (0, .ref (ad a0)), (1, .int p1)]) C d_Un_poleAtGreatest_10 rfl (by decide) rfl ?_
  refine g_aload_n (pc := 11) C d_Un_poleAtGreatest_11 rfl 1 rfl ?_
  obtain ⟨b5, hnb5, hb5, h⟩ := o_rq h
  refine g_get (pc := 12) (k := 2) (v := va_rf ((N a0 2).map ad)) C gcX9 inX9 (by decide) fl_Un_25 ha0 rfl d_Un_poleAtGreatest_12 ?_
  refine g_top (g_rf hnb5) ?_
  obtain ⟨b6, hnb6, hb6, h⟩ := o_rq h
  refine g_getN (pc := 15) (k := 1) (v := va_rf ((N b5 1).map ad)) C gcX5 inX5 (by decide) fl_Un_70 hb5 rfl d_Un_poleAtGreatest_15 ?_
  refine g_top (g_rf hnb6) ?_
  obtain ⟨r7, hc8, h⟩ := o_bn1 h
  refine g_V (pc := 18) (rest := []) C (k_Po_degree (xl X) hb6 hc8) sm_Po_degree ml_Un_76 im_Po_degree se_Po_degree gcX6 rfl hb6 ⟨rfl, rfl, Nat.le_of_ble_eq_true rfl, Nat.le_of_ble_eq_true rfl⟩ ⟨Nat.zero_le _, Nat.zero_le _⟩ rfl rfl (Nat.le_of_ble_eq_true rfl) d_Un_poleAtGreatest_18 [.int r7] rfl ?_
  refine g_istore_n (pc := 21) (lv' := [(3, .int r7), (2, .int r3), (0, .ref (ad a0)), (1, .int p1)]) C d_Un_poleAtGreatest_21 rfl (by decide) rfl ?_
  refine g_iload_n (pc := 22) C d_Un_poleAtGreatest_22 rfl 1 rfl ?_
  refine g_iload_n (pc := 23) C d_Un_poleAtGreatest_23 rfl 0 rfl ?_
  refine g_icmp_gt (pc := 24) C 29 d_Un_poleAtGreatest_24 rfl (fun e9 => ?_) (fun e9 => ?_)
  · have h := o_pos e9 h
    refine g_aload_n (pc := 29) C d_Un_poleAtGreatest_29 rfl 2 rfl ?_
    obtain ⟨b10, hnb10, hb10, h⟩ := o_rq h
    refine g_get (pc := 30) (k := 4) (v := va_rf ((N a0 4).map ad)) C gcX9 inX9 (by decide) fl_Un_38 ha0 rfl d_Un_poleAtGreatest_30 ?_
    refine g_top (g_rf hnb10) ?_
    refine g_aload_n (pc := 33) C d_Un_poleAtGreatest_33 rfl 2 rfl ?_
    obtain ⟨b11, hnb11, hb11, h⟩ := o_rq h
    refine g_get (pc := 34) (k := 2) (v := va_rf ((N a0 2).map ad)) C gcX9 inX9 (by decide) fl_Un_25 ha0 rfl d_Un_poleAtGreatest_34 ?_
    refine g_top (g_rf hnb11) ?_
    obtain ⟨b12, hnb12, hb12, h⟩ := o_rq h
    refine g_getN (pc := 37) (k := 0) (v := va_rf ((N b11 0).map ad)) C gcX5 inX5 (by decide) fl_Un_63 hb11 rfl d_Un_poleAtGreatest_37 ?_
    refine g_top (g_rf hnb12) ?_
    refine g_iload_n (pc := 40) C d_Un_poleAtGreatest_40 rfl 1 rfl ?_
    obtain ⟨r13, hc14, h⟩ := o_bn1 h
    refine g_V (pc := 41) (rest := [.ref (ad b10)]) C (k_Po_at (xl X) hb12 hc14) sm_Po_at ml_Un_80 im_Po_at se_Po_at gcX6 rfl hb12 ⟨rfl, rfl, Nat.le_of_ble_eq_true rfl, Nat.le_of_ble_eq_true rfl⟩ ⟨Nat.zero_le _, Nat.zero_le _⟩ rfl rfl (Nat.le_of_ble_eq_true rfl) d_Un_poleAtGreatest_41 [.long r13, .ref (ad b10)] rfl ?_
    refine g_aload_n (pc := 44) C d_Un_poleAtGreatest_44 rfl 2 rfl ?_
    obtain ⟨b15, hnb15, hb15, h⟩ := o_rq h
    refine g_get (pc := 45) (k := 2) (v := va_rf ((N a0 2).map ad)) C gcX9 inX9 (by decide) fl_Un_25 ha0 rfl d_Un_poleAtGreatest_45 ?_
    refine g_top (g_rf hnb15) ?_
    obtain ⟨b16, hnb16, hb16, h⟩ := o_rq h
    refine g_getN (pc := 48) (k := 1) (v := va_rf ((N b15 1).map ad)) C gcX5 inX5 (by decide) fl_Un_70 hb15 rfl d_Un_poleAtGreatest_48 ?_
    refine g_top (g_rf hnb16) ?_
    refine g_iload_n (pc := 51) C d_Un_poleAtGreatest_51 rfl 0 rfl ?_
    obtain ⟨r17, hc18, h⟩ := o_bn1 h
    refine g_V (pc := 52) (rest := [.long r13, .ref (ad b10)]) C (k_Po_at (xl X) hb16 hc18) sm_Po_at ml_Un_80 im_Po_at se_Po_at gcX6 rfl hb16 ⟨rfl, rfl, Nat.le_of_ble_eq_true rfl, Nat.le_of_ble_eq_true rfl⟩ ⟨Nat.zero_le _, Nat.zero_le _⟩ rfl rfl (Nat.le_of_ble_eq_true rfl) d_Un_poleAtGreatest_52 [.long r17, .long r13, .ref (ad b10)] rfl ?_
    obtain ⟨J19, hc20, h⟩ := o_bn1 h
    refine g_V (pc := 55) (rest := []) C (k_Fr_put (xl X) hb10 hc20) sm_Fr_put ml_Un_84 im_Fr_put se_Fr_put gcX2 rfl hb10 ⟨rfl, rfl, Nat.le_of_ble_eq_true rfl, Nat.le_of_ble_eq_true rfl⟩ ⟨Nat.zero_le _, Nat.zero_le _⟩ rfl rfl (Nat.le_of_ble_eq_true rfl) d_Un_poleAtGreatest_55 [] rfl ?_
    refine g_iload_n (pc := 58) C d_Un_poleAtGreatest_58 rfl 1 rfl ?_
    refine g_iload_n (pc := 59) C d_Un_poleAtGreatest_59 rfl 0 rfl ?_
    refine g_iconst (pc := 60) C (1 : Int32) d_Un_poleAtGreatest_60 (by decide) ?_
    refine g_iadd (pc := 61) C d_Un_poleAtGreatest_61 ?_
    refine g_icmp_gt (pc := 62) C 77 d_Un_poleAtGreatest_62 rfl (fun e21 => ?_) (fun e21 => ?_)
    · have h := o_pos e21 h
      refine g_lv [] rfl ?_
      exact w_Un_poleAtGreatest_77 C ha0 h
    · have h := o_neg e21 h
      refine g_aload_n (pc := 65) C d_Un_poleAtGreatest_65 rfl 2 rfl ?_
      obtain ⟨b22, hnb22, hb22, h⟩ := o_rq h
      refine g_get (pc := 66) (k := 4) (v := va_rf ((N a0 4).map ad)) C gcX9 inX9 (by decide) fl_Un_38 ha0 rfl d_Un_poleAtGreatest_66 ?_
      refine g_top (g_rf hnb22) ?_
      refine g_getN (pc := 69) (k := 0) (v := .long (J19 b22 0)) C gcX2 inX2 (by decide) fl_Un_88 hb22 rfl d_Un_poleAtGreatest_69 ?_
      refine g_lconst (pc := 72) C (0 : Int64) d_Un_poleAtGreatest_72 (by decide) ?_
      refine g_lcmp_gt (pc := 73) C 82 d_Un_poleAtGreatest_73 d_Un_poleAtGreatest_74 rfl (fun e23 => ?_) (fun e23 => ?_)
      · have h := o_pos e23 h
        refine g_aload_n (pc := 82) C d_Un_poleAtGreatest_82 rfl 2 rfl ?_
        obtain ⟨b24, hnb24, hb24, h⟩ := o_rq h
        refine g_get (pc := 83) (k := 4) (v := va_rf ((N a0 4).map ad)) C gcX9 inX9 (by decide) fl_Un_38 ha0 rfl d_Un_poleAtGreatest_83 ?_
        refine g_top (g_rf hnb24) ?_
        obtain ⟨r25, hc26, h⟩ := o_bn1 h
        refine g_V (pc := 86) (rest := []) C (k_Fr_isHandy (xl X) hb24 hc26) sm_Fr_isHandy ml_Un_95 im_Fr_isHandy se_Fr_isHandy gcX2 rfl hb24 ⟨rfl, rfl, Nat.le_of_ble_eq_true rfl, Nat.le_of_ble_eq_true rfl⟩ ⟨Nat.zero_le _, Nat.zero_le _⟩ rfl rfl (Nat.le_of_ble_eq_true rfl) d_Un_poleAtGreatest_86 [.int r25] rfl ?_
        refine g_if_ne (pc := 89) C 95 d_Un_poleAtGreatest_89 rfl (fun e27 => ?_) (fun e27 => ?_)
        · have h := o_neg e27 h
          refine g_aload_n (pc := 95) C d_Un_poleAtGreatest_95 rfl 2 rfl ?_
          refine g_iload_n (pc := 96) C d_Un_poleAtGreatest_96 rfl 3 rfl ?_
          obtain ⟨I28, hc29, h⟩ := o_bn1 h
          refine g_V (pc := 97) (rest := []) C (k_Un_addRising (xl X) ha0 hc29) sm_Un_addRising ml_Un_99 im_Un_addRising se_Un_addRising gcX9 rfl ha0 ⟨rfl, rfl, Nat.le_of_ble_eq_true rfl, Nat.le_of_ble_eq_true rfl⟩ ⟨Nat.zero_le _, Nat.zero_le _⟩ rfl rfl (Nat.le_of_ble_eq_true rfl) d_Un_poleAtGreatest_97 [] rfl ?_
          refine g_iconst (pc := 100) C (0 : Int32) d_Un_poleAtGreatest_100 (by decide) ?_
          obtain rfl := o_ret h
          exact g_iret (pc := 101) C d_Un_poleAtGreatest_101
        · have h := o_pos e27 h
          refine g_bipush (pc := 92) C (-5 : Int32) d_Un_poleAtGreatest_92 (by decide) ?_
          obtain rfl := o_ret h
          exact g_iret (pc := 94) C d_Un_poleAtGreatest_94
      · have h := o_neg e23 h
        refine g_lv [] rfl ?_
        exact w_Un_poleAtGreatest_77 C ha0 h
  · have h := o_neg e9 h
    refine g_iconst (pc := 27) C (0 : Int32) d_Un_poleAtGreatest_27 (by decide) ?_
    obtain rfl := o_ret h
    exact g_iret (pc := 28) C d_Un_poleAtGreatest_28
set_option maxRecDepth 20000 in
theorem k_Un_poleAtGreatest (l : Launch) {I : HI} {J : HJ} {N : HN} {a0 : Nat} {p1 : Int32} {r : HI × HJ × Int32} (ha0 : gk Tc nC a0 (0, 9)) (h : Un_poleAtGreatest N a0 p1 I J = some r) : gM l y_Un_poleAtGreatest c_Un_poleAtGreatest 4 (some .int) rm_Un_poleAtGreatest Tc nC I J N (fun ad => [.ref (ad a0), .int p1]) (r.1, r.2.1, N, fun _ => some (.int r.2.2)) :=
  g_meth (lv := fun ad => [(0, .ref (ad a0)), (1, .int p1)]) (by decide) (fun _ => Nat.le_of_ble_eq_true rfl) (fun _ => rfl) (fun X ad C => g_lv [0, 1] rfl (w_Un_poleAtGreatest_0 C ha0 h))
theorem d_Un_poleAtZero_0 : decode c_Un_poleAtZero 0 = .ok (.aload_n 0, 1) := by decide +kernel
theorem d_Un_poleAtZero_1 : decode c_Un_poleAtZero 1 = .ok (.getfield 25, 3) := by decide +kernel
theorem d_Un_poleAtZero_4 : decode c_Un_poleAtZero 4 = .ok (.getfield 70, 3) := by decide +kernel
theorem d_Un_poleAtZero_7 : decode c_Un_poleAtZero 7 = .ok (.iconst 0, 1) := by decide +kernel
theorem d_Un_poleAtZero_8 : decode c_Un_poleAtZero 8 = .ok (.invokevirtual 80, 3) := by decide +kernel
theorem d_Un_poleAtZero_11 : decode c_Un_poleAtZero 11 = .ok (.lconst 0, 1) := by decide +kernel
theorem d_Un_poleAtZero_12 : decode c_Un_poleAtZero 12 = .ok (.lcmp, 1) := by decide +kernel
theorem d_Un_poleAtZero_13 : decode c_Un_poleAtZero 13 = .ok (.ifCond .ne 8, 3) := by decide +kernel
theorem d_Un_poleAtZero_16 : decode c_Un_poleAtZero 16 = .ok (.iconst 1, 1) := by decide +kernel
theorem d_Un_poleAtZero_17 : decode c_Un_poleAtZero 17 = .ok (.invokestatic 91, 3) := by decide +kernel
theorem d_Un_poleAtZero_20 : decode c_Un_poleAtZero 20 = .ok (.ireturn, 1) := by decide +kernel
theorem d_Un_poleAtZero_21 : decode c_Un_poleAtZero 21 = .ok (.aload_n 0, 1) := by decide +kernel
theorem d_Un_poleAtZero_22 : decode c_Un_poleAtZero 22 = .ok (.getfield 25, 3) := by decide +kernel
theorem d_Un_poleAtZero_25 : decode c_Un_poleAtZero 25 = .ok (.getfield 63, 3) := by decide +kernel
theorem d_Un_poleAtZero_28 : decode c_Un_poleAtZero 28 = .ok (.iconst 0, 1) := by decide +kernel
theorem d_Un_poleAtZero_29 : decode c_Un_poleAtZero 29 = .ok (.invokevirtual 80, 3) := by decide +kernel
theorem d_Un_poleAtZero_32 : decode c_Un_poleAtZero 32 = .ok (.lconst 0, 1) := by decide +kernel
theorem d_Un_poleAtZero_33 : decode c_Un_poleAtZero 33 = .ok (.lcmp, 1) := by decide +kernel
theorem d_Un_poleAtZero_34 : decode c_Un_poleAtZero 34 = .ok (.ifCond .ne 5, 3) := by decide +kernel
theorem d_Un_poleAtZero_37 : decode c_Un_poleAtZero 37 = .ok (.iconst 0, 1) := by decide +kernel
theorem d_Un_poleAtZero_38 : decode c_Un_poleAtZero 38 = .ok (.ireturn, 1) := by decide +kernel
theorem d_Un_poleAtZero_39 : decode c_Un_poleAtZero 39 = .ok (.aload_n 0, 1) := by decide +kernel
theorem d_Un_poleAtZero_40 : decode c_Un_poleAtZero 40 = .ok (.getfield 38, 3) := by decide +kernel
theorem d_Un_poleAtZero_43 : decode c_Un_poleAtZero 43 = .ok (.aload_n 0, 1) := by decide +kernel
theorem d_Un_poleAtZero_44 : decode c_Un_poleAtZero 44 = .ok (.getfield 25, 3) := by decide +kernel
theorem d_Un_poleAtZero_47 : decode c_Un_poleAtZero 47 = .ok (.getfield 63, 3) := by decide +kernel
theorem d_Un_poleAtZero_50 : decode c_Un_poleAtZero 50 = .ok (.iconst 0, 1) := by decide +kernel
theorem d_Un_poleAtZero_51 : decode c_Un_poleAtZero 51 = .ok (.invokevirtual 80, 3) := by decide +kernel
theorem d_Un_poleAtZero_54 : decode c_Un_poleAtZero 54 = .ok (.aload_n 0, 1) := by decide +kernel
theorem d_Un_poleAtZero_55 : decode c_Un_poleAtZero 55 = .ok (.getfield 25, 3) := by decide +kernel
theorem d_Un_poleAtZero_58 : decode c_Un_poleAtZero 58 = .ok (.getfield 70, 3) := by decide +kernel
theorem d_Un_poleAtZero_61 : decode c_Un_poleAtZero 61 = .ok (.iconst 0, 1) := by decide +kernel
theorem d_Un_poleAtZero_62 : decode c_Un_poleAtZero 62 = .ok (.invokevirtual 80, 3) := by decide +kernel
theorem d_Un_poleAtZero_65 : decode c_Un_poleAtZero 65 = .ok (.invokevirtual 84, 3) := by decide +kernel
theorem d_Un_poleAtZero_68 : decode c_Un_poleAtZero 68 = .ok (.aload_n 0, 1) := by decide +kernel
theorem d_Un_poleAtZero_69 : decode c_Un_poleAtZero 69 = .ok (.getfield 38, 3) := by decide +kernel
theorem d_Un_poleAtZero_72 : decode c_Un_poleAtZero 72 = .ok (.getfield 88, 3) := by decide +kernel
theorem d_Un_poleAtZero_75 : decode c_Un_poleAtZero 75 = .ok (.lconst 0, 1) := by decide +kernel
theorem d_Un_poleAtZero_76 : decode c_Un_poleAtZero 76 = .ok (.lcmp, 1) := by decide +kernel
theorem d_Un_poleAtZero_77 : decode c_Un_poleAtZero 77 = .ok (.ifCond .gt 8, 3) := by decide +kernel
theorem d_Un_poleAtZero_80 : decode c_Un_poleAtZero 80 = .ok (.iconst 1, 1) := by decide +kernel
theorem d_Un_poleAtZero_81 : decode c_Un_poleAtZero 81 = .ok (.invokestatic 91, 3) := by decide +kernel
theorem d_Un_poleAtZero_84 : decode c_Un_poleAtZero 84 = .ok (.ireturn, 1) := by decide +kernel
theorem d_Un_poleAtZero_85 : decode c_Un_poleAtZero 85 = .ok (.aload_n 0, 1) := by decide +kernel
theorem d_Un_poleAtZero_86 : decode c_Un_poleAtZero 86 = .ok (.getfield 38, 3) := by decide +kernel
theorem d_Un_poleAtZero_89 : decode c_Un_poleAtZero 89 = .ok (.invokevirtual 95, 3) := by decide +kernel
theorem d_Un_poleAtZero_92 : decode c_Un_poleAtZero 92 = .ok (.ifCond .ne 6, 3) := by decide +kernel
theorem d_Un_poleAtZero_95 : decode c_Un_poleAtZero 95 = .ok (.bipush (-5), 2) := by decide +kernel
theorem d_Un_poleAtZero_97 : decode c_Un_poleAtZero 97 = .ok (.ireturn, 1) := by decide +kernel
theorem d_Un_poleAtZero_98 : decode c_Un_poleAtZero 98 = .ok (.aload_n 0, 1) := by decide +kernel
theorem d_Un_poleAtZero_99 : decode c_Un_poleAtZero 99 = .ok (.iload_n 1, 1) := by decide +kernel
theorem d_Un_poleAtZero_100 : decode c_Un_poleAtZero 100 = .ok (.invokevirtual 103, 3) := by decide +kernel
theorem d_Un_poleAtZero_103 : decode c_Un_poleAtZero 103 = .ok (.iconst 0, 1) := by decide +kernel
theorem d_Un_poleAtZero_104 : decode c_Un_poleAtZero 104 = .ok (.ireturn, 1) := by decide +kernel
set_option maxRecDepth 20000 in
theorem w_Un_poleAtZero_0 {X : HX} {ad : Nat → Nat} {I : HI} {J : HJ} {N : HN} {r : HI × HJ × Int32} {a0 : Nat} {p1 : Int32} (C : Cx X c_Un_poleAtZero RX9 2 (some .int) rm_Un_poleAtZero) (ha0 : gk Tc nC a0 (0, 9))
    (h : Un_poleAtZero_0 N a0 p1 I J = some r) : G Tc X ad nC 0 0 I J N (gE X Tc ad nC (r.1, r.2.1, N, fun _ => some (.int r.2.2))) 0 2 [(0, .ref (ad a0)), (1, .int p1)] [] := by
  refine g_aload_n (pc := 0) C d_Un_poleAtZero_0 rfl 0 rfl ?_
  obtain ⟨b1, hnb1, hb1, h⟩ := o_rq h
  refine g_get (pc := 1) (k := 2) (v := va_rf ((N a0 2).map ad)) C gcX9 inX9 (by decide) fl_Un_25 ha0 rfl d_Un_poleAtZero_1 ?_
  refine g_top (g_rf hnb1) ?_
  obtain ⟨b2, hnb2, hb2, h⟩ := o_rq h
  refine g_getN (pc := 4) (k := 1) (v := va_rf ((N b1 1).map ad)) C gcX5 inX5 (by decide) fl_Un_70 hb1 rfl d_Un_poleAtZero_4 ?_
  refine g_top (g_rf hnb2) ?_
  refine g_iconst (pc := 7) C (0 : Int32) d_Un_poleAtZero_7 (by decide) ?_
  obtain ⟨r3, hc4, h⟩ := o_bn1 h
  refine g_V (pc := 8) (rest := []) C (k_Po_at (xl X) hb2 hc4) sm_Po_at ml_Un_80 im_Po_at se_Po_at gcX6 rfl hb2 ⟨rfl, rfl, Nat.le_of_ble_eq_true rfl, Nat.le_of_ble_eq_true rfl⟩ ⟨Nat.zero_le _, Nat.zero_le _⟩ rfl rfl (Nat.le_of_ble_eq_true rfl) d_Un_poleAtZero_8 [.long r3] rfl ?_
  refine g_lconst (pc := 11) C (0 : Int64) d_Un_poleAtZero_11 (by decide) ?_
  refine g_lcmp_ne (pc := 12) C 21 d_Un_poleAtZero_12 d_Un_poleAtZero_13 rfl (fun e5 => ?_) (fun e5 => ?_)
  · have h := o_neg e5 h
    refine g_aload_n (pc := 21) C d_Un_poleAtZero_21 rfl 0 rfl ?_
    obtain ⟨b6, hnb6, hb6, h⟩ := o_rq h
    refine g_get (pc := 22) (k := 2) (v := va_rf ((N a0 2).map ad)) C gcX9 inX9 (by decide) fl_Un_25 ha0 rfl d_Un_poleAtZero_22 ?_
    refine g_top (g_rf hnb6) ?_
    obtain ⟨b7, hnb7, hb7, h⟩ := o_rq h
    refine g_getN (pc := 25) (k := 0) (v := va_rf ((N b6 0).map ad)) C gcX5 inX5 (by decide) fl_Un_63 hb6 rfl d_Un_poleAtZero_25 ?_
    refine g_top (g_rf hnb7) ?_
    refine g_iconst (pc := 28) C (0 : Int32) d_Un_poleAtZero_28 (by decide) ?_
    obtain ⟨r8, hc9, h⟩ := o_bn1 h
    refine g_V (pc := 29) (rest := []) C (k_Po_at (xl X) hb7 hc9) sm_Po_at ml_Un_80 im_Po_at se_Po_at gcX6 rfl hb7 ⟨rfl, rfl, Nat.le_of_ble_eq_true rfl, Nat.le_of_ble_eq_true rfl⟩ ⟨Nat.zero_le _, Nat.zero_le _⟩ rfl rfl (Nat.le_of_ble_eq_true rfl) d_Un_poleAtZero_29 [.long r8] rfl ?_
    refine g_lconst (pc := 32) C (0 : Int64) d_Un_poleAtZero_32 (by decide) ?_
    refine g_lcmp_ne (pc := 33) C 39 d_Un_poleAtZero_33 d_Un_poleAtZero_34 rfl (fun e10 => ?_) (fun e10 => ?_)
    · have h := o_neg e10 h
      refine g_aload_n (pc := 39) C d_Un_poleAtZero_39 rfl 0 rfl ?_
      obtain ⟨b11, hnb11, hb11, h⟩ := o_rq h
      refine g_get (pc := 40) (k := 4) (v := va_rf ((N a0 4).map ad)) C gcX9 inX9 (by decide) fl_Un_38 ha0 rfl d_Un_poleAtZero_40 ?_
      refine g_top (g_rf hnb11) ?_
      refine g_aload_n (pc := 43) C d_Un_poleAtZero_43 rfl 0 rfl ?_
      obtain ⟨b12, hnb12, hb12, h⟩ := o_rq h
      refine g_get (pc := 44) (k := 2) (v := va_rf ((N a0 2).map ad)) C gcX9 inX9 (by decide) fl_Un_25 ha0 rfl d_Un_poleAtZero_44 ?_
      refine g_top (g_rf hnb12) ?_
      obtain ⟨b13, hnb13, hb13, h⟩ := o_rq h
      refine g_getN (pc := 47) (k := 0) (v := va_rf ((N b12 0).map ad)) C gcX5 inX5 (by decide) fl_Un_63 hb12 rfl d_Un_poleAtZero_47 ?_
      refine g_top (g_rf hnb13) ?_
      refine g_iconst (pc := 50) C (0 : Int32) d_Un_poleAtZero_50 (by decide) ?_
      obtain ⟨r14, hc15, h⟩ := o_bn1 h
      refine g_V (pc := 51) (rest := [.ref (ad b11)]) C (k_Po_at (xl X) hb13 hc15) sm_Po_at ml_Un_80 im_Po_at se_Po_at gcX6 rfl hb13 ⟨rfl, rfl, Nat.le_of_ble_eq_true rfl, Nat.le_of_ble_eq_true rfl⟩ ⟨Nat.zero_le _, Nat.zero_le _⟩ rfl rfl (Nat.le_of_ble_eq_true rfl) d_Un_poleAtZero_51 [.long r14, .ref (ad b11)] rfl ?_
      refine g_aload_n (pc := 54) C d_Un_poleAtZero_54 rfl 0 rfl ?_
      obtain ⟨b16, hnb16, hb16, h⟩ := o_rq h
      refine g_get (pc := 55) (k := 2) (v := va_rf ((N a0 2).map ad)) C gcX9 inX9 (by decide) fl_Un_25 ha0 rfl d_Un_poleAtZero_55 ?_
      refine g_top (g_rf hnb16) ?_
      obtain ⟨b17, hnb17, hb17, h⟩ := o_rq h
      refine g_getN (pc := 58) (k := 1) (v := va_rf ((N b16 1).map ad)) C gcX5 inX5 (by decide) fl_Un_70 hb16 rfl d_Un_poleAtZero_58 ?_
      refine g_top (g_rf hnb17) ?_
      refine g_iconst (pc := 61) C (0 : Int32) d_Un_poleAtZero_61 (by decide) ?_
      obtain ⟨r18, hc19, h⟩ := o_bn1 h
      refine g_V (pc := 62) (rest := [.long r14, .ref (ad b11)]) C (k_Po_at (xl X) hb17 hc19) sm_Po_at ml_Un_80 im_Po_at se_Po_at gcX6 rfl hb17 ⟨rfl, rfl, Nat.le_of_ble_eq_true rfl, Nat.le_of_ble_eq_true rfl⟩ ⟨Nat.zero_le _, Nat.zero_le _⟩ rfl rfl (Nat.le_of_ble_eq_true rfl) d_Un_poleAtZero_62 [.long r18, .long r14, .ref (ad b11)] rfl ?_
      obtain ⟨J20, hc21, h⟩ := o_bn1 h
      refine g_V (pc := 65) (rest := []) C (k_Fr_put (xl X) hb11 hc21) sm_Fr_put ml_Un_84 im_Fr_put se_Fr_put gcX2 rfl hb11 ⟨rfl, rfl, Nat.le_of_ble_eq_true rfl, Nat.le_of_ble_eq_true rfl⟩ ⟨Nat.zero_le _, Nat.zero_le _⟩ rfl rfl (Nat.le_of_ble_eq_true rfl) d_Un_poleAtZero_65 [] rfl ?_
      refine g_aload_n (pc := 68) C d_Un_poleAtZero_68 rfl 0 rfl ?_
      obtain ⟨b22, hnb22, hb22, h⟩ := o_rq h
      refine g_get (pc := 69) (k := 4) (v := va_rf ((N a0 4).map ad)) C gcX9 inX9 (by decide) fl_Un_38 ha0 rfl d_Un_poleAtZero_69 ?_
      refine g_top (g_rf hnb22) ?_
      refine g_getN (pc := 72) (k := 0) (v := .long (J20 b22 0)) C gcX2 inX2 (by decide) fl_Un_88 hb22 rfl d_Un_poleAtZero_72 ?_
      refine g_lconst (pc := 75) C (0 : Int64) d_Un_poleAtZero_75 (by decide) ?_
      refine g_lcmp_gt (pc := 76) C 85 d_Un_poleAtZero_76 d_Un_poleAtZero_77 rfl (fun e23 => ?_) (fun e23 => ?_)
      · have h := o_pos e23 h
        refine g_aload_n (pc := 85) C d_Un_poleAtZero_85 rfl 0 rfl ?_
        obtain ⟨b24, hnb24, hb24, h⟩ := o_rq h
        refine g_get (pc := 86) (k := 4) (v := va_rf ((N a0 4).map ad)) C gcX9 inX9 (by decide) fl_Un_38 ha0 rfl d_Un_poleAtZero_86 ?_
        refine g_top (g_rf hnb24) ?_
        obtain ⟨r25, hc26, h⟩ := o_bn1 h
        refine g_V (pc := 89) (rest := []) C (k_Fr_isHandy (xl X) hb24 hc26) sm_Fr_isHandy ml_Un_95 im_Fr_isHandy se_Fr_isHandy gcX2 rfl hb24 ⟨rfl, rfl, Nat.le_of_ble_eq_true rfl, Nat.le_of_ble_eq_true rfl⟩ ⟨Nat.zero_le _, Nat.zero_le _⟩ rfl rfl (Nat.le_of_ble_eq_true rfl) d_Un_poleAtZero_89 [.int r25] rfl ?_
        refine g_if_ne (pc := 92) C 98 d_Un_poleAtZero_92 rfl (fun e27 => ?_) (fun e27 => ?_)
        · have h := o_neg e27 h
          refine g_aload_n (pc := 98) C d_Un_poleAtZero_98 rfl 0 rfl ?_
          refine g_iload_n (pc := 99) C d_Un_poleAtZero_99 rfl 1 rfl ?_
          obtain ⟨I28, hc29, h⟩ := o_bn1 h
          refine g_V (pc := 100) (rest := []) C (k_Un_addFalling (xl X) ha0 hc29) sm_Un_addFalling ml_Un_103 im_Un_addFalling se_Un_addFalling gcX9 rfl ha0 ⟨rfl, rfl, Nat.le_of_ble_eq_true rfl, Nat.le_of_ble_eq_true rfl⟩ ⟨Nat.zero_le _, Nat.zero_le _⟩ rfl rfl (Nat.le_of_ble_eq_true rfl) d_Un_poleAtZero_100 [] rfl ?_
          refine g_iconst (pc := 103) C (0 : Int32) d_Un_poleAtZero_103 (by decide) ?_
          obtain rfl := o_ret h
          exact g_iret (pc := 104) C d_Un_poleAtZero_104
        · have h := o_pos e27 h
          refine g_bipush (pc := 95) C (-5 : Int32) d_Un_poleAtZero_95 (by decide) ?_
          obtain rfl := o_ret h
          exact g_iret (pc := 97) C d_Un_poleAtZero_97
      · have h := o_neg e23 h
        refine g_iconst (pc := 80) C (1 : Int32) d_Un_poleAtZero_80 (by decide) ?_
        obtain ⟨r30, hc31, h⟩ := o_bn1 h
        refine g_S (pc := 81) (rest := []) C (k_Un_unlawful (xl X)  hc31) sm_Un_unlawful ml_Un_91 st_Un_unlawful ⟨rfl, rfl, Nat.le_of_ble_eq_true rfl, Nat.le_of_ble_eq_true rfl⟩ ⟨Nat.zero_le _, Nat.zero_le _⟩ rfl rfl (Nat.le_of_ble_eq_true rfl) d_Un_poleAtZero_81 [.int r30] rfl ?_
        obtain rfl := o_ret h
        exact g_iret (pc := 84) C d_Un_poleAtZero_84
    · have h := o_pos e10 h
      refine g_iconst (pc := 37) C (0 : Int32) d_Un_poleAtZero_37 (by decide) ?_
      obtain rfl := o_ret h
      exact g_iret (pc := 38) C d_Un_poleAtZero_38
  · have h := o_pos e5 h
    refine g_iconst (pc := 16) C (1 : Int32) d_Un_poleAtZero_16 (by decide) ?_
    obtain ⟨r32, hc33, h⟩ := o_bn1 h
    refine g_S (pc := 17) (rest := []) C (k_Un_unlawful (xl X)  hc33) sm_Un_unlawful ml_Un_91 st_Un_unlawful ⟨rfl, rfl, Nat.le_of_ble_eq_true rfl, Nat.le_of_ble_eq_true rfl⟩ ⟨Nat.zero_le _, Nat.zero_le _⟩ rfl rfl (Nat.le_of_ble_eq_true rfl) d_Un_poleAtZero_17 [.int r32] rfl ?_
    obtain rfl := o_ret h
    exact g_iret (pc := 20) C d_Un_poleAtZero_20
set_option maxRecDepth 20000 in
theorem k_Un_poleAtZero (l : Launch) {I : HI} {J : HJ} {N : HN} {a0 : Nat} {p1 : Int32} {r : HI × HJ × Int32} (ha0 : gk Tc nC a0 (0, 9)) (h : Un_poleAtZero N a0 p1 I J = some r) : gM l y_Un_poleAtZero c_Un_poleAtZero 2 (some .int) rm_Un_poleAtZero Tc nC I J N (fun ad => [.ref (ad a0), .int p1]) (r.1, r.2.1, N, fun _ => some (.int r.2.2)) :=
  g_meth (lv := fun ad => [(0, .ref (ad a0)), (1, .int p1)]) (by decide) (fun _ => Nat.le_of_ble_eq_true rfl) (fun _ => rfl) (fun X ad C => g_lv [0, 1] rfl (w_Un_poleAtZero_0 C ha0 h))
theorem d_Un_addBoth_0 : decode c_Un_addBoth 0 = .ok (.aload_n 0, 1) := by decide +kernel
theorem d_Un_addBoth_1 : decode c_Un_addBoth 1 = .ok (.getfield 42, 3) := by decide +kernel
theorem d_Un_addBoth_4 : decode c_Un_addBoth 4 = .ok (.getfield 88, 3) := by decide +kernel
theorem d_Un_addBoth_7 : decode c_Un_addBoth 7 = .ok (.l2i, 1) := by decide +kernel
theorem d_Un_addBoth_8 : decode c_Un_addBoth 8 = .ok (.istore_n 2, 1) := by decide +kernel
theorem d_Un_addBoth_9 : decode c_Un_addBoth 9 = .ok (.aload_n 0, 1) := by decide +kernel
theorem d_Un_addBoth_10 : decode c_Un_addBoth 10 = .ok (.getfield 42, 3) := by decide +kernel
theorem d_Un_addBoth_13 : decode c_Un_addBoth 13 = .ok (.getfield 174, 3) := by decide +kernel
theorem d_Un_addBoth_16 : decode c_Un_addBoth 16 = .ok (.l2i, 1) := by decide +kernel
theorem d_Un_addBoth_17 : decode c_Un_addBoth 17 = .ok (.istore_n 3, 1) := by decide +kernel
theorem d_Un_addBoth_18 : decode c_Un_addBoth 18 = .ok (.aload_n 0, 1) := by decide +kernel
theorem d_Un_addBoth_19 : decode c_Un_addBoth 19 = .ok (.getfield 38, 3) := by decide +kernel
theorem d_Un_addBoth_22 : decode c_Un_addBoth 22 = .ok (.getfield 174, 3) := by decide +kernel
theorem d_Un_addBoth_25 : decode c_Un_addBoth 25 = .ok (.l2i, 1) := by decide +kernel
theorem d_Un_addBoth_26 : decode c_Un_addBoth 26 = .ok (.istore 4, 2) := by decide +kernel
theorem d_Un_addBoth_28 : decode c_Un_addBoth 28 = .ok (.aload_n 0, 1) := by decide +kernel
theorem d_Un_addBoth_29 : decode c_Un_addBoth 29 = .ok (.getfield 38, 3) := by decide +kernel
theorem d_Un_addBoth_32 : decode c_Un_addBoth 32 = .ok (.getfield 88, 3) := by decide +kernel
theorem d_Un_addBoth_35 : decode c_Un_addBoth 35 = .ok (.l2i, 1) := by decide +kernel
theorem d_Un_addBoth_36 : decode c_Un_addBoth 36 = .ok (.istore 5, 2) := by decide +kernel
theorem d_Un_addBoth_38 : decode c_Un_addBoth 38 = .ok (.iload_n 1, 1) := by decide +kernel
theorem d_Un_addBoth_39 : decode c_Un_addBoth 39 = .ok (.ifCond .ne 21, 3) := by decide +kernel
theorem d_Un_addBoth_42 : decode c_Un_addBoth 42 = .ok (.aload_n 0, 1) := by decide +kernel
theorem d_Un_addBoth_43 : decode c_Un_addBoth 43 = .ok (.getfield 12, 3) := by decide +kernel
theorem d_Un_addBoth_46 : decode c_Un_addBoth 46 = .ok (.iload_n 1, 1) := by decide +kernel
theorem d_Un_addBoth_47 : decode c_Un_addBoth 47 = .ok (.iload_n 2, 1) := by decide +kernel
theorem d_Un_addBoth_48 : decode c_Un_addBoth 48 = .ok (.iload_n 3, 1) := by decide +kernel
theorem d_Un_addBoth_49 : decode c_Un_addBoth 49 = .ok (.iload 4, 2) := by decide +kernel
theorem d_Un_addBoth_51 : decode c_Un_addBoth 51 = .ok (.iload 5, 2) := by decide +kernel
theorem d_Un_addBoth_53 : decode c_Un_addBoth 53 = .ok (.invokevirtual 179, 3) := by decide +kernel
theorem d_Un_addBoth_56 : decode c_Un_addBoth 56 = .ok (.pop, 1) := by decide +kernel
theorem d_Un_addBoth_57 : decode c_Un_addBoth 57 = .ok (.goto 18, 3) := by decide +kernel
theorem d_Un_addBoth_60 : decode c_Un_addBoth 60 = .ok (.aload_n 0, 1) := by decide +kernel
theorem d_Un_addBoth_61 : decode c_Un_addBoth 61 = .ok (.getfield 12, 3) := by decide +kernel
theorem d_Un_addBoth_64 : decode c_Un_addBoth 64 = .ok (.iload_n 1, 1) := by decide +kernel
theorem d_Un_addBoth_65 : decode c_Un_addBoth 65 = .ok (.iload 4, 2) := by decide +kernel
theorem d_Un_addBoth_67 : decode c_Un_addBoth 67 = .ok (.iload 5, 2) := by decide +kernel
theorem d_Un_addBoth_69 : decode c_Un_addBoth 69 = .ok (.iload_n 2, 1) := by decide +kernel
theorem d_Un_addBoth_70 : decode c_Un_addBoth 70 = .ok (.iload_n 3, 1) := by decide +kernel
theorem d_Un_addBoth_71 : decode c_Un_addBoth 71 = .ok (.invokevirtual 179, 3) := by decide +kernel
theorem d_Un_addBoth_74 : decode c_Un_addBoth 74 = .ok (.pop, 1) := by decide +kernel
theorem d_Un_addBoth_75 : decode c_Un_addBoth 75 = .ok (.return_, 1) := by decide +kernel
set_option maxRecDepth 20000 in
theorem w_Un_addBoth_0 {X : HX} {ad : Nat → Nat} {I : HI} {J : HJ} {N : HN} {r : HI} {a0 : Nat} {p1 : Int32} (C : Cx X c_Un_addBoth RX9 6 none rm_Un_addBoth) (ha0 : gk Tc nC a0 (0, 9))
    (h : Un_addBoth_0 J N a0 p1 I = some r) : G Tc X ad nC 0 0 I J N (gE X Tc ad nC (r, J, N, fun _ => none)) 0 6 [(0, .ref (ad a0)), (1, .int p1)] [] := by
  refine g_aload_n (pc := 0) C d_Un_addBoth_0 rfl 0 rfl ?_
  obtain ⟨b1, hnb1, hb1, h⟩ := o_rq h
  refine g_get (pc := 1) (k := 5) (v := va_rf ((N a0 5).map ad)) C gcX9 inX9 (by decide) fl_Un_42 ha0 rfl d_Un_addBoth_1 ?_
  refine g_top (g_rf hnb1) ?_
  refine g_getN (pc := 4) (k := 0) (v := .long (J b1 0)) C gcX2 inX2 (by decide) fl_Un_88 hb1 rfl d_Un_addBoth_4 ?_
  refine g_l2i (pc := 7) C d_Un_addBoth_7 ?_
  obtain ⟨v2, ev2, h⟩ := o_bd h
  refine g_topi ev2 ?_
  refine g_istore_n (pc := 8) (lv' := [(2, .int v2), (0, .ref (ad a0)), (1, .int p1)]) C d_Un_addBoth_8 rfl (by decide) rfl ?_
  refine g_aload_n (pc := 9) C d_Un_addBoth_9 rfl 1 rfl ?_
  obtain ⟨b3, hnb3, hb3, h⟩ := o_rq h
  refine g_get (pc := 10) (k := 5) (v := va_rf ((N a0 5).map ad)) C gcX9 inX9 (by decide) fl_Un_42 ha0 rfl d_Un_addBoth_10 ?_
  refine g_top (g_rf hnb3) ?_
  refine g_getN (pc := 13) (k := 1) (v := .long (J b3 1)) C gcX2 inX2 (by decide) fl_Un_174 hb3 rfl d_Un_addBoth_13 ?_
  refine g_l2i (pc := 16) C d_Un_addBoth_16 ?_
  obtain ⟨v4, ev4, h⟩ := o_bd h
  refine g_topi ev4 ?_
  refine g_istore_n (pc := 17) (lv' := [(3, .int v4), (2, .int v2), (0, .ref (ad a0)), (1, .int p1)]) C d_Un_addBoth_17 rfl (by decide) rfl ?_
  refine g_aload_n (pc := 18) C d_Un_addBoth_18 rfl 2 rfl ?_
  obtain ⟨b5, hnb5, hb5, h⟩ := o_rq h
  refine g_get (pc := 19) (k := 4) (v := va_rf ((N a0 4).map ad)) C gcX9 inX9 (by decide) fl_Un_38 ha0 rfl d_Un_addBoth_19 ?_
  refine g_top (g_rf hnb5) ?_
  refine g_getN (pc := 22) (k := 1) (v := .long (J b5 1)) C gcX2 inX2 (by decide) fl_Un_174 hb5 rfl d_Un_addBoth_22 ?_
  refine g_l2i (pc := 25) C d_Un_addBoth_25 ?_
  obtain ⟨v6, ev6, h⟩ := o_bd h
  refine g_topi ev6 ?_
  refine g_istore (pc := 26) (lv' := [(4, .int v6), (3, .int v4), (2, .int v2), (0, .ref (ad a0)), (1, .int p1)]) C d_Un_addBoth_26 (by decide) rfl ?_
  refine g_aload_n (pc := 28) C d_Un_addBoth_28 rfl 3 rfl ?_
  obtain ⟨b7, hnb7, hb7, h⟩ := o_rq h
  refine g_get (pc := 29) (k := 4) (v := va_rf ((N a0 4).map ad)) C gcX9 inX9 (by decide) fl_Un_38 ha0 rfl d_Un_addBoth_29 ?_
  refine g_top (g_rf hnb7) ?_
  refine g_getN (pc := 32) (k := 0) (v := .long (J b7 0)) C gcX2 inX2 (by decide) fl_Un_88 hb7 rfl d_Un_addBoth_32 ?_
  refine g_l2i (pc := 35) C d_Un_addBoth_35 ?_
  obtain ⟨v8, ev8, h⟩ := o_bd h
  refine g_topi ev8 ?_
  refine g_istore (pc := 36) (lv' := [(5, .int v8), (4, .int v6), (3, .int v4), (2, .int v2), (0, .ref (ad a0)), (1, .int p1)]) C d_Un_addBoth_36 (by decide) rfl ?_
  refine g_iload_n (pc := 38) C d_Un_addBoth_38 rfl 5 rfl ?_
  refine g_if_ne (pc := 39) C 60 d_Un_addBoth_39 rfl (fun e9 => ?_) (fun e9 => ?_)
  · have h := o_neg e9 h
    refine g_aload_n (pc := 60) C d_Un_addBoth_60 rfl 4 rfl ?_
    obtain ⟨b10, hnb10, hb10, h⟩ := o_rq h
    refine g_get (pc := 61) (k := 0) (v := va_rf ((N a0 0).map ad)) C gcX9 inX9 (by decide) fl_Un_12 ha0 rfl d_Un_addBoth_61 ?_
    refine g_top (g_rf hnb10) ?_
    refine g_iload_n (pc := 64) C d_Un_addBoth_64 rfl 5 rfl ?_
    refine g_iload (pc := 65) C d_Un_addBoth_65 1 rfl ?_
    refine g_iload (pc := 67) C d_Un_addBoth_67 0 rfl ?_
    refine g_iload_n (pc := 69) C d_Un_addBoth_69 rfl 3 rfl ?_
    refine g_iload_n (pc := 70) C d_Un_addBoth_70 rfl 2 rfl ?_
    obtain ⟨I11, r12, hc13, h⟩ := o_bn2 h
    refine g_V (pc := 71) (rest := []) C (k_La_add (xl X) hb10 hc13) sm_La_add ml_Un_179 im_La_add se_La_add gcX3 rfl hb10 ⟨rfl, rfl, Nat.le_of_ble_eq_true rfl, Nat.le_of_ble_eq_true rfl⟩ ⟨Nat.zero_le _, Nat.zero_le _⟩ rfl rfl (Nat.le_of_ble_eq_true rfl) d_Un_addBoth_71 [.int r12] rfl ?_
    refine g_pop (pc := 74) C d_Un_addBoth_74 rfl ?_
    obtain rfl := o_ret h
    exact g_vret (pc := 75) C d_Un_addBoth_75
  · have h := o_pos e9 h
    refine g_aload_n (pc := 42) C d_Un_addBoth_42 rfl 4 rfl ?_
    obtain ⟨b14, hnb14, hb14, h⟩ := o_rq h
    refine g_get (pc := 43) (k := 0) (v := va_rf ((N a0 0).map ad)) C gcX9 inX9 (by decide) fl_Un_12 ha0 rfl d_Un_addBoth_43 ?_
    refine g_top (g_rf hnb14) ?_
    refine g_iload_n (pc := 46) C d_Un_addBoth_46 rfl 5 rfl ?_
    refine g_iload_n (pc := 47) C d_Un_addBoth_47 rfl 3 rfl ?_
    refine g_iload_n (pc := 48) C d_Un_addBoth_48 rfl 2 rfl ?_
    refine g_iload (pc := 49) C d_Un_addBoth_49 1 rfl ?_
    refine g_iload (pc := 51) C d_Un_addBoth_51 0 rfl ?_
    obtain ⟨I15, r16, hc17, h⟩ := o_bn2 h
    refine g_V (pc := 53) (rest := []) C (k_La_add (xl X) hb14 hc17) sm_La_add ml_Un_179 im_La_add se_La_add gcX3 rfl hb14 ⟨rfl, rfl, Nat.le_of_ble_eq_true rfl, Nat.le_of_ble_eq_true rfl⟩ ⟨Nat.zero_le _, Nat.zero_le _⟩ rfl rfl (Nat.le_of_ble_eq_true rfl) d_Un_addBoth_53 [.int r16] rfl ?_
    refine g_pop (pc := 56) C d_Un_addBoth_56 rfl ?_
    refine g_goto (pc := 57) C 75 d_Un_addBoth_57 rfl ?_
    obtain rfl := o_ret h
    exact g_vret (pc := 75) C d_Un_addBoth_75
set_option maxRecDepth 20000 in
theorem k_Un_addBoth (l : Launch) {I : HI} {J : HJ} {N : HN} {a0 : Nat} {p1 : Int32} {r : HI} (ha0 : gk Tc nC a0 (0, 9)) (h : Un_addBoth J N a0 p1 I = some r) : gM l y_Un_addBoth c_Un_addBoth 6 none rm_Un_addBoth Tc nC I J N (fun ad => [.ref (ad a0), .int p1]) (r, J, N, fun _ => none) :=
  g_meth (lv := fun ad => [(0, .ref (ad a0)), (1, .int p1)]) (by decide) (fun _ => Nat.le_of_ble_eq_true rfl) (fun _ => rfl) (fun X ad C => g_lv [0, 1] rfl (w_Un_addBoth_0 C ha0 h))
theorem d_Un_poleAtRoot_0 : decode c_Un_poleAtRoot 0 = .ok (.iload_n 2, 1) := by decide +kernel
theorem d_Un_poleAtRoot_1 : decode c_Un_poleAtRoot 1 = .ok (.ifCond .lt 27, 3) := by decide +kernel
theorem d_Un_poleAtRoot_4 : decode c_Un_poleAtRoot 4 = .ok (.iload_n 2, 1) := by decide +kernel
theorem d_Un_poleAtRoot_5 : decode c_Un_poleAtRoot 5 = .ok (.iconst 3, 1) := by decide +kernel
theorem d_Un_poleAtRoot_6 : decode c_Un_poleAtRoot 6 = .ok (.if_icmp .ge 22, 3) := by decide +kernel
theorem d_Un_poleAtRoot_9 : decode c_Un_poleAtRoot 9 = .ok (.aload_n 0, 1) := by decide +kernel
theorem d_Un_poleAtRoot_10 : decode c_Un_poleAtRoot 10 = .ok (.getfield 45, 3) := by decide +kernel
theorem d_Un_poleAtRoot_13 : decode c_Un_poleAtRoot 13 = .ok (.iload_n 2, 1) := by decide +kernel
theorem d_Un_poleAtRoot_14 : decode c_Un_poleAtRoot 14 = .ok (.iaload, 1) := by decide +kernel
theorem d_Un_poleAtRoot_15 : decode c_Un_poleAtRoot 15 = .ok (.ifCond .le 13, 3) := by decide +kernel
theorem d_Un_poleAtRoot_18 : decode c_Un_poleAtRoot 18 = .ok (.aload_n 0, 1) := by decide +kernel
theorem d_Un_poleAtRoot_19 : decode c_Un_poleAtRoot 19 = .ok (.getfield 52, 3) := by decide +kernel
theorem d_Un_poleAtRoot_22 : decode c_Un_poleAtRoot 22 = .ok (.iload_n 2, 1) := by decide +kernel
theorem d_Un_poleAtRoot_23 : decode c_Un_poleAtRoot 23 = .ok (.iaload, 1) := by decide +kernel
theorem d_Un_poleAtRoot_24 : decode c_Un_poleAtRoot 24 = .ok (.iconst 1, 1) := by decide +kernel
theorem d_Un_poleAtRoot_25 : decode c_Un_poleAtRoot 25 = .ok (.if_icmp .le 10, 3) := by decide +kernel
theorem d_Un_poleAtRoot_28 : decode c_Un_poleAtRoot 28 = .ok (.iconst 2, 1) := by decide +kernel
theorem d_Un_poleAtRoot_29 : decode c_Un_poleAtRoot 29 = .ok (.iload_n 2, 1) := by decide +kernel
theorem d_Un_poleAtRoot_30 : decode c_Un_poleAtRoot 30 = .ok (.iadd, 1) := by decide +kernel
theorem d_Un_poleAtRoot_31 : decode c_Un_poleAtRoot 31 = .ok (.invokestatic 91, 3) := by decide +kernel
theorem d_Un_poleAtRoot_34 : decode c_Un_poleAtRoot 34 = .ok (.ireturn, 1) := by decide +kernel
theorem d_Un_poleAtRoot_35 : decode c_Un_poleAtRoot 35 = .ok (.aload_n 0, 1) := by decide +kernel
theorem d_Un_poleAtRoot_36 : decode c_Un_poleAtRoot 36 = .ok (.getfield 45, 3) := by decide +kernel
theorem d_Un_poleAtRoot_39 : decode c_Un_poleAtRoot 39 = .ok (.iload_n 2, 1) := by decide +kernel
theorem d_Un_poleAtRoot_40 : decode c_Un_poleAtRoot 40 = .ok (.iaload, 1) := by decide +kernel
theorem d_Un_poleAtRoot_41 : decode c_Un_poleAtRoot 41 = .ok (.istore_n 3, 1) := by decide +kernel
theorem d_Un_poleAtRoot_42 : decode c_Un_poleAtRoot 42 = .ok (.aload_n 0, 1) := by decide +kernel
theorem d_Un_poleAtRoot_43 : decode c_Un_poleAtRoot 43 = .ok (.getfield 49, 3) := by decide +kernel
theorem d_Un_poleAtRoot_46 : decode c_Un_poleAtRoot 46 = .ok (.iload_n 2, 1) := by decide +kernel
theorem d_Un_poleAtRoot_47 : decode c_Un_poleAtRoot 47 = .ok (.iaload, 1) := by decide +kernel
theorem d_Un_poleAtRoot_48 : decode c_Un_poleAtRoot 48 = .ok (.istore 4, 2) := by decide +kernel
theorem d_Un_poleAtRoot_50 : decode c_Un_poleAtRoot 50 = .ok (.aload_n 0, 1) := by decide +kernel
theorem d_Un_poleAtRoot_51 : decode c_Un_poleAtRoot 51 = .ok (.getfield 31, 3) := by decide +kernel
theorem d_Un_poleAtRoot_54 : decode c_Un_poleAtRoot 54 = .ok (.aload_n 0, 1) := by decide +kernel
theorem d_Un_poleAtRoot_55 : decode c_Un_poleAtRoot 55 = .ok (.getfield 25, 3) := by decide +kernel
theorem d_Un_poleAtRoot_58 : decode c_Un_poleAtRoot 58 = .ok (.getfield 70, 3) := by decide +kernel
theorem d_Un_poleAtRoot_61 : decode c_Un_poleAtRoot 61 = .ok (.invokevirtual 154, 3) := by decide +kernel
theorem d_Un_poleAtRoot_64 : decode c_Un_poleAtRoot 64 = .ok (.aload_n 0, 1) := by decide +kernel
theorem d_Un_poleAtRoot_65 : decode c_Un_poleAtRoot 65 = .ok (.getfield 31, 3) := by decide +kernel
theorem d_Un_poleAtRoot_68 : decode c_Un_poleAtRoot 68 = .ok (.iload_n 3, 1) := by decide +kernel
theorem d_Un_poleAtRoot_69 : decode c_Un_poleAtRoot 69 = .ok (.i2l, 1) := by decide +kernel
theorem d_Un_poleAtRoot_70 : decode c_Un_poleAtRoot 70 = .ok (.iload 4, 2) := by decide +kernel
theorem d_Un_poleAtRoot_72 : decode c_Un_poleAtRoot 72 = .ok (.i2l, 1) := by decide +kernel
theorem d_Un_poleAtRoot_73 : decode c_Un_poleAtRoot 73 = .ok (.invokevirtual 171, 3) := by decide +kernel
theorem d_Un_poleAtRoot_76 : decode c_Un_poleAtRoot 76 = .ok (.aload_n 0, 1) := by decide +kernel
theorem d_Un_poleAtRoot_77 : decode c_Un_poleAtRoot 77 = .ok (.getfield 38, 3) := by decide +kernel
theorem d_Un_poleAtRoot_80 : decode c_Un_poleAtRoot 80 = .ok (.aload_n 0, 1) := by decide +kernel
theorem d_Un_poleAtRoot_81 : decode c_Un_poleAtRoot 81 = .ok (.getfield 25, 3) := by decide +kernel
theorem d_Un_poleAtRoot_84 : decode c_Un_poleAtRoot 84 = .ok (.getfield 63, 3) := by decide +kernel
theorem d_Un_poleAtRoot_87 : decode c_Un_poleAtRoot 87 = .ok (.iload_n 3, 1) := by decide +kernel
theorem d_Un_poleAtRoot_88 : decode c_Un_poleAtRoot 88 = .ok (.i2l, 1) := by decide +kernel
theorem d_Un_poleAtRoot_89 : decode c_Un_poleAtRoot 89 = .ok (.iload 4, 2) := by decide +kernel
theorem d_Un_poleAtRoot_91 : decode c_Un_poleAtRoot 91 = .ok (.i2l, 1) := by decide +kernel
theorem d_Un_poleAtRoot_92 : decode c_Un_poleAtRoot 92 = .ok (.invokevirtual 157, 3) := by decide +kernel
theorem d_Un_poleAtRoot_95 : decode c_Un_poleAtRoot 95 = .ok (.iload_n 3, 1) := by decide +kernel
theorem d_Un_poleAtRoot_96 : decode c_Un_poleAtRoot 96 = .ok (.ineg, 1) := by decide +kernel
theorem d_Un_poleAtRoot_97 : decode c_Un_poleAtRoot 97 = .ok (.i2l, 1) := by decide +kernel
theorem d_Un_poleAtRoot_98 : decode c_Un_poleAtRoot 98 = .ok (.aload_n 0, 1) := by decide +kernel
theorem d_Un_poleAtRoot_99 : decode c_Un_poleAtRoot 99 = .ok (.getfield 31, 3) := by decide +kernel
theorem d_Un_poleAtRoot_102 : decode c_Un_poleAtRoot 102 = .ok (.iload_n 3, 1) := by decide +kernel
theorem d_Un_poleAtRoot_103 : decode c_Un_poleAtRoot 103 = .ok (.i2l, 1) := by decide +kernel
theorem d_Un_poleAtRoot_104 : decode c_Un_poleAtRoot 104 = .ok (.iload 4, 2) := by decide +kernel
theorem d_Un_poleAtRoot_106 : decode c_Un_poleAtRoot 106 = .ok (.i2l, 1) := by decide +kernel
theorem d_Un_poleAtRoot_107 : decode c_Un_poleAtRoot 107 = .ok (.invokevirtual 157, 3) := by decide +kernel
theorem d_Un_poleAtRoot_110 : decode c_Un_poleAtRoot 110 = .ok (.lmul, 1) := by decide +kernel
theorem d_Un_poleAtRoot_111 : decode c_Un_poleAtRoot 111 = .ok (.invokevirtual 84, 3) := by decide +kernel
theorem d_Un_poleAtRoot_114 : decode c_Un_poleAtRoot 114 = .ok (.aload_n 0, 1) := by decide +kernel
theorem d_Un_poleAtRoot_115 : decode c_Un_poleAtRoot 115 = .ok (.getfield 38, 3) := by decide +kernel
theorem d_Un_poleAtRoot_118 : decode c_Un_poleAtRoot 118 = .ok (.getfield 88, 3) := by decide +kernel
theorem d_Un_poleAtRoot_121 : decode c_Un_poleAtRoot 121 = .ok (.lconst 0, 1) := by decide +kernel
theorem d_Un_poleAtRoot_122 : decode c_Un_poleAtRoot 122 = .ok (.lcmp, 1) := by decide +kernel
theorem d_Un_poleAtRoot_123 : decode c_Un_poleAtRoot 123 = .ok (.ifCond .ne 5, 3) := by decide +kernel
theorem d_Un_poleAtRoot_126 : decode c_Un_poleAtRoot 126 = .ok (.iconst 0, 1) := by decide +kernel
theorem d_Un_poleAtRoot_127 : decode c_Un_poleAtRoot 127 = .ok (.ireturn, 1) := by decide +kernel
theorem d_Un_poleAtRoot_128 : decode c_Un_poleAtRoot 128 = .ok (.aload_n 0, 1) := by decide +kernel
theorem d_Un_poleAtRoot_129 : decode c_Un_poleAtRoot 129 = .ok (.getfield 38, 3) := by decide +kernel
theorem d_Un_poleAtRoot_132 : decode c_Un_poleAtRoot 132 = .ok (.getfield 88, 3) := by decide +kernel
theorem d_Un_poleAtRoot_135 : decode c_Un_poleAtRoot 135 = .ok (.lconst 0, 1) := by decide +kernel
theorem d_Un_poleAtRoot_136 : decode c_Un_poleAtRoot 136 = .ok (.lcmp, 1) := by decide +kernel
theorem d_Un_poleAtRoot_137 : decode c_Un_poleAtRoot 137 = .ok (.ifCond .ge 10, 3) := by decide +kernel
theorem d_Un_poleAtRoot_140 : decode c_Un_poleAtRoot 140 = .ok (.iconst 2, 1) := by decide +kernel
theorem d_Un_poleAtRoot_141 : decode c_Un_poleAtRoot 141 = .ok (.iload_n 2, 1) := by decide +kernel
theorem d_Un_poleAtRoot_142 : decode c_Un_poleAtRoot 142 = .ok (.iadd, 1) := by decide +kernel
theorem d_Un_poleAtRoot_143 : decode c_Un_poleAtRoot 143 = .ok (.invokestatic 91, 3) := by decide +kernel
theorem d_Un_poleAtRoot_146 : decode c_Un_poleAtRoot 146 = .ok (.ireturn, 1) := by decide +kernel
theorem d_Un_poleAtRoot_147 : decode c_Un_poleAtRoot 147 = .ok (.aload_n 0, 1) := by decide +kernel
theorem d_Un_poleAtRoot_148 : decode c_Un_poleAtRoot 148 = .ok (.getfield 42, 3) := by decide +kernel
theorem d_Un_poleAtRoot_151 : decode c_Un_poleAtRoot 151 = .ok (.aload_n 0, 1) := by decide +kernel
theorem d_Un_poleAtRoot_152 : decode c_Un_poleAtRoot 152 = .ok (.getfield 38, 3) := by decide +kernel
theorem d_Un_poleAtRoot_155 : decode c_Un_poleAtRoot 155 = .ok (.getfield 88, 3) := by decide +kernel
theorem d_Un_poleAtRoot_158 : decode c_Un_poleAtRoot 158 = .ok (.iload 4, 2) := by decide +kernel
theorem d_Un_poleAtRoot_160 : decode c_Un_poleAtRoot 160 = .ok (.i2l, 1) := by decide +kernel
theorem d_Un_poleAtRoot_161 : decode c_Un_poleAtRoot 161 = .ok (.lmul, 1) := by decide +kernel
theorem d_Un_poleAtRoot_162 : decode c_Un_poleAtRoot 162 = .ok (.aload_n 0, 1) := by decide +kernel
theorem d_Un_poleAtRoot_163 : decode c_Un_poleAtRoot 163 = .ok (.getfield 38, 3) := by decide +kernel
theorem d_Un_poleAtRoot_166 : decode c_Un_poleAtRoot 166 = .ok (.getfield 174, 3) := by decide +kernel
theorem d_Un_poleAtRoot_169 : decode c_Un_poleAtRoot 169 = .ok (.iload_n 3, 1) := by decide +kernel
theorem d_Un_poleAtRoot_170 : decode c_Un_poleAtRoot 170 = .ok (.i2l, 1) := by decide +kernel
theorem d_Un_poleAtRoot_171 : decode c_Un_poleAtRoot 171 = .ok (.lmul, 1) := by decide +kernel
theorem d_Un_poleAtRoot_172 : decode c_Un_poleAtRoot 172 = .ok (.invokevirtual 84, 3) := by decide +kernel
theorem d_Un_poleAtRoot_175 : decode c_Un_poleAtRoot 175 = .ok (.aload_n 0, 1) := by decide +kernel
theorem d_Un_poleAtRoot_176 : decode c_Un_poleAtRoot 176 = .ok (.getfield 38, 3) := by decide +kernel
theorem d_Un_poleAtRoot_179 : decode c_Un_poleAtRoot 179 = .ok (.invokevirtual 95, 3) := by decide +kernel
theorem d_Un_poleAtRoot_182 : decode c_Un_poleAtRoot 182 = .ok (.ifCond .eq 13, 3) := by decide +kernel
theorem d_Un_poleAtRoot_185 : decode c_Un_poleAtRoot 185 = .ok (.aload_n 0, 1) := by decide +kernel
theorem d_Un_poleAtRoot_186 : decode c_Un_poleAtRoot 186 = .ok (.getfield 42, 3) := by decide +kernel
theorem d_Un_poleAtRoot_189 : decode c_Un_poleAtRoot 189 = .ok (.invokevirtual 95, 3) := by decide +kernel
theorem d_Un_poleAtRoot_192 : decode c_Un_poleAtRoot 192 = .ok (.ifCond .ne 6, 3) := by decide +kernel
theorem d_Un_poleAtRoot_195 : decode c_Un_poleAtRoot 195 = .ok (.bipush (-5), 2) := by decide +kernel
theorem d_Un_poleAtRoot_197 : decode c_Un_poleAtRoot 197 = .ok (.ireturn, 1) := by decide +kernel
theorem d_Un_poleAtRoot_198 : decode c_Un_poleAtRoot 198 = .ok (.aload_n 0, 1) := by decide +kernel
theorem d_Un_poleAtRoot_199 : decode c_Un_poleAtRoot 199 = .ok (.iload_n 1, 1) := by decide +kernel
theorem d_Un_poleAtRoot_200 : decode c_Un_poleAtRoot 200 = .ok (.invokevirtual 176, 3) := by decide +kernel
theorem d_Un_poleAtRoot_203 : decode c_Un_poleAtRoot 203 = .ok (.iconst 0, 1) := by decide +kernel
theorem d_Un_poleAtRoot_204 : decode c_Un_poleAtRoot 204 = .ok (.ireturn, 1) := by decide +kernel
set_option maxRecDepth 20000 in
theorem w_Un_poleAtRoot_28 {X : HX} {ad : Nat → Nat} {I : HI} {J : HJ} {N : HN} {r : HI × HJ × Int32} {a0 : Nat} {p1 : Int32} {p2 : Int32} (C : Cx X c_Un_poleAtRoot RX9 5 (some .int) rm_Un_poleAtRoot) (ha0 : gk Tc nC a0 (0, 9))
    (h : Un_poleAtRoot_28 N a0 p1 p2 I J = some r) : G Tc X ad nC 0 0 I J N (gE X Tc ad nC (r.1, r.2.1, N, fun _ => some (.int r.2.2))) 28 5 [(2, .int p2)] [] := by
  refine g_iconst (pc := 28) C (2 : Int32) d_Un_poleAtRoot_28 (by decide) ?_
  refine g_iload_n (pc := 29) C d_Un_poleAtRoot_29 rfl 0 rfl ?_
  refine g_iadd (pc := 30) C d_Un_poleAtRoot_30 ?_
  obtain ⟨r1, hc2, h⟩ := o_bn1 h
  refine g_S (pc := 31) (rest := []) C (k_Un_unlawful (xl X)  hc2) sm_Un_unlawful ml_Un_91 st_Un_unlawful ⟨rfl, rfl, Nat.le_of_ble_eq_true rfl, Nat.le_of_ble_eq_true rfl⟩ ⟨Nat.zero_le _, Nat.zero_le _⟩ rfl rfl (Nat.le_of_ble_eq_true rfl) d_Un_poleAtRoot_31 [.int r1] rfl ?_
  obtain rfl := o_ret h
  exact g_iret (pc := 34) C d_Un_poleAtRoot_34
set_option maxRecDepth 20000 in
theorem w_Un_poleAtRoot_0 {X : HX} {ad : Nat → Nat} {I : HI} {J : HJ} {N : HN} {r : HI × HJ × Int32} {a0 : Nat} {p1 : Int32} {p2 : Int32} (C : Cx X c_Un_poleAtRoot RX9 5 (some .int) rm_Un_poleAtRoot) (ha0 : gk Tc nC a0 (0, 9))
    (h : Un_poleAtRoot_0 N a0 p1 p2 I J = some r) : G Tc X ad nC 0 0 I J N (gE X Tc ad nC (r.1, r.2.1, N, fun _ => some (.int r.2.2))) 0 5 [(0, .ref (ad a0)), (1, .int p1), (2, .int p2)] [] := by
  refine g_iload_n (pc := 0) C d_Un_poleAtRoot_0 rfl 2 rfl ?_
  refine g_if_lt (pc := 1) C 28 d_Un_poleAtRoot_1 rfl (fun e1 => ?_) (fun e1 => ?_)
  · have h := o_pos e1 h
    refine g_lv [2] rfl ?_
    exact w_Un_poleAtRoot_28 C ha0 h
  · have h := o_neg e1 h
    refine g_iload_n (pc := 4) C d_Un_poleAtRoot_4 rfl 2 rfl ?_
    refine g_iconst (pc := 5) C (3 : Int32) d_Un_poleAtRoot_5 (by decide) ?_
    refine g_icmp_ge (pc := 6) C 28 d_Un_poleAtRoot_6 rfl (fun e2 => ?_) (fun e2 => ?_)
    · have h := o_pos e2 h
      refine g_lv [2] rfl ?_
      exact w_Un_poleAtRoot_28 C ha0 h
    · have h := o_neg e2 h
      refine g_aload_n (pc := 9) C d_Un_poleAtRoot_9 rfl 0 rfl ?_
      obtain ⟨b3, hnb3, hb3, h⟩ := o_ra h
      refine g_get (pc := 10) (k := 6) (v := va_rf ((N a0 6).map ad)) C gcX9 inX9 (by decide) fl_Un_45 ha0 rfl d_Un_poleAtRoot_10 ?_
      refine g_top (g_rf hnb3) ?_
      refine g_iload_n (pc := 13) C d_Un_poleAtRoot_13 rfl 2 rfl ?_
      obtain ⟨hi4, h⟩ := o_gd h
      refine g_iald (pc := 14) C hb3 hi4 d_Un_poleAtRoot_14 ?_
      refine g_if_le (pc := 15) C 28 d_Un_poleAtRoot_15 rfl (fun e5 => ?_) (fun e5 => ?_)
      · have h := o_pos e5 h
        refine g_lv [2] rfl ?_
        exact w_Un_poleAtRoot_28 C ha0 h
      · have h := o_neg e5 h
        refine g_aload_n (pc := 18) C d_Un_poleAtRoot_18 rfl 0 rfl ?_
        obtain ⟨b6, hnb6, hb6, h⟩ := o_ra h
        refine g_get (pc := 19) (k := 8) (v := va_rf ((N a0 8).map ad)) C gcX9 inX9 (by decide) fl_Un_52 ha0 rfl d_Un_poleAtRoot_19 ?_
        refine g_top (g_rf hnb6) ?_
        refine g_iload_n (pc := 22) C d_Un_poleAtRoot_22 rfl 2 rfl ?_
        obtain ⟨hi7, h⟩ := o_gd h
        refine g_iald (pc := 23) C hb6 hi7 d_Un_poleAtRoot_23 ?_
        refine g_iconst (pc := 24) C (1 : Int32) d_Un_poleAtRoot_24 (by decide) ?_
        refine g_icmp_le (pc := 25) C 35 d_Un_poleAtRoot_25 rfl (fun e8 => ?_) (fun e8 => ?_)
        · have h := o_pos e8 h
          refine g_aload_n (pc := 35) C d_Un_poleAtRoot_35 rfl 0 rfl ?_
          obtain ⟨b9, hnb9, hb9, h⟩ := o_ra h
          refine g_get (pc := 36) (k := 6) (v := va_rf ((N a0 6).map ad)) C gcX9 inX9 (by decide) fl_Un_45 ha0 rfl d_Un_poleAtRoot_36 ?_
          refine g_top (g_rf hnb9) ?_
          refine g_iload_n (pc := 39) C d_Un_poleAtRoot_39 rfl 2 rfl ?_
          obtain ⟨hi10, h⟩ := o_gd h
          refine g_iald (pc := 40) C hb9 hi10 d_Un_poleAtRoot_40 ?_
          obtain ⟨v11, ev11, h⟩ := o_bd h
          refine g_topi ev11 ?_
          refine g_istore_n (pc := 41) (lv' := [(3, .int v11), (0, .ref (ad a0)), (1, .int p1), (2, .int p2)]) C d_Un_poleAtRoot_41 rfl (by decide) rfl ?_
          refine g_aload_n (pc := 42) C d_Un_poleAtRoot_42 rfl 1 rfl ?_
          obtain ⟨b12, hnb12, hb12, h⟩ := o_ra h
          refine g_get (pc := 43) (k := 7) (v := va_rf ((N a0 7).map ad)) C gcX9 inX9 (by decide) fl_Un_49 ha0 rfl d_Un_poleAtRoot_43 ?_
          refine g_top (g_rf hnb12) ?_
          refine g_iload_n (pc := 46) C d_Un_poleAtRoot_46 rfl 3 rfl ?_
          obtain ⟨hi13, h⟩ := o_gd h
          refine g_iald (pc := 47) C hb12 hi13 d_Un_poleAtRoot_47 ?_
          obtain ⟨v14, ev14, h⟩ := o_bd h
          refine g_topi ev14 ?_
          refine g_istore (pc := 48) (lv' := [(4, .int v14), (3, .int v11), (0, .ref (ad a0)), (1, .int p1), (2, .int p2)]) C d_Un_poleAtRoot_48 (by decide) rfl ?_
          refine g_aload_n (pc := 50) C d_Un_poleAtRoot_50 rfl 2 rfl ?_
          obtain ⟨b15, hnb15, hb15, h⟩ := o_rq h
          refine g_get (pc := 51) (k := 3) (v := va_rf ((N a0 3).map ad)) C gcX9 inX9 (by decide) fl_Un_31 ha0 rfl d_Un_poleAtRoot_51 ?_
          refine g_top (g_rf hnb15) ?_
          refine g_aload_n (pc := 54) C d_Un_poleAtRoot_54 rfl 2 rfl ?_
          obtain ⟨b16, hnb16, hb16, h⟩ := o_rq h
          refine g_get (pc := 55) (k := 2) (v := va_rf ((N a0 2).map ad)) C gcX9 inX9 (by decide) fl_Un_25 ha0 rfl d_Un_poleAtRoot_55 ?_
          refine g_top (g_rf hnb16) ?_
          obtain ⟨b17, hnb17, hb17, h⟩ := o_rq h
          refine g_getN (pc := 58) (k := 1) (v := va_rf ((N b16 1).map ad)) C gcX5 inX5 (by decide) fl_Un_70 hb16 rfl d_Un_poleAtRoot_58 ?_
          refine g_top (g_rf hnb17) ?_
          obtain ⟨J18, hc19, h⟩ := o_bn1 h
          refine g_V (pc := 61) (rest := []) C (k_Po_load (xl X) hb15 hb17 hc19) sm_Po_load ml_Un_154 im_Po_load se_Po_load gcX6 rfl hb15 ⟨rfl, rfl, Nat.le_of_ble_eq_true rfl, Nat.le_of_ble_eq_true rfl⟩ ⟨Nat.zero_le _, Nat.zero_le _⟩ rfl rfl (Nat.le_of_ble_eq_true rfl) d_Un_poleAtRoot_61 [] rfl ?_
          refine g_aload_n (pc := 64) C d_Un_poleAtRoot_64 rfl 2 rfl ?_
          obtain ⟨b20, hnb20, hb20, h⟩ := o_rq h
          refine g_get (pc := 65) (k := 3) (v := va_rf ((N a0 3).map ad)) C gcX9 inX9 (by decide) fl_Un_31 ha0 rfl d_Un_poleAtRoot_65 ?_
          refine g_top (g_rf hnb20) ?_
          refine g_iload_n (pc := 68) C d_Un_poleAtRoot_68 rfl 1 rfl ?_
          refine g_i2l (pc := 69) C d_Un_poleAtRoot_69 ?_
          refine g_iload (pc := 70) C d_Un_poleAtRoot_70 0 rfl ?_
          refine g_i2l (pc := 72) C d_Un_poleAtRoot_72 ?_
          obtain ⟨J21, hc22, h⟩ := o_bn1 h
          refine g_V (pc := 73) (rest := []) C (k_Po_divideByRoot (xl X) hb20 hc22) sm_Po_divideByRoot ml_Un_171 im_Po_divideByRoot se_Po_divideByRoot gcX6 rfl hb20 ⟨rfl, rfl, Nat.le_of_ble_eq_true rfl, Nat.le_of_ble_eq_true rfl⟩ ⟨Nat.zero_le _, Nat.zero_le _⟩ rfl rfl (Nat.le_of_ble_eq_true rfl) d_Un_poleAtRoot_73 [] rfl ?_
          refine g_aload_n (pc := 76) C d_Un_poleAtRoot_76 rfl 2 rfl ?_
          obtain ⟨b23, hnb23, hb23, h⟩ := o_rq h
          refine g_get (pc := 77) (k := 4) (v := va_rf ((N a0 4).map ad)) C gcX9 inX9 (by decide) fl_Un_38 ha0 rfl d_Un_poleAtRoot_77 ?_
          refine g_top (g_rf hnb23) ?_
          refine g_aload_n (pc := 80) C d_Un_poleAtRoot_80 rfl 2 rfl ?_
          obtain ⟨b24, hnb24, hb24, h⟩ := o_rq h
          refine g_get (pc := 81) (k := 2) (v := va_rf ((N a0 2).map ad)) C gcX9 inX9 (by decide) fl_Un_25 ha0 rfl d_Un_poleAtRoot_81 ?_
          refine g_top (g_rf hnb24) ?_
          obtain ⟨b25, hnb25, hb25, h⟩ := o_rq h
          refine g_getN (pc := 84) (k := 0) (v := va_rf ((N b24 0).map ad)) C gcX5 inX5 (by decide) fl_Un_63 hb24 rfl d_Un_poleAtRoot_84 ?_
          refine g_top (g_rf hnb25) ?_
          refine g_iload_n (pc := 87) C d_Un_poleAtRoot_87 rfl 1 rfl ?_
          refine g_i2l (pc := 88) C d_Un_poleAtRoot_88 ?_
          refine g_iload (pc := 89) C d_Un_poleAtRoot_89 0 rfl ?_
          refine g_i2l (pc := 91) C d_Un_poleAtRoot_91 ?_
          obtain ⟨r26, hc27, h⟩ := o_bn1 h
          refine g_V (pc := 92) (rest := [.ref (ad b23)]) C (k_Po_valueAtMinus (xl X) hb25 hc27) sm_Po_valueAtMinus ml_Un_157 im_Po_valueAtMinus se_Po_valueAtMinus gcX6 rfl hb25 ⟨rfl, rfl, Nat.le_of_ble_eq_true rfl, Nat.le_of_ble_eq_true rfl⟩ ⟨Nat.zero_le _, Nat.zero_le _⟩ rfl rfl (Nat.le_of_ble_eq_true rfl) d_Un_poleAtRoot_92 [.long r26, .ref (ad b23)] rfl ?_
          refine g_iload_n (pc := 95) C d_Un_poleAtRoot_95 rfl 1 rfl ?_
          refine g_ineg (pc := 96) C d_Un_poleAtRoot_96 ?_
          refine g_i2l (pc := 97) C d_Un_poleAtRoot_97 ?_
          refine g_aload_n (pc := 98) C d_Un_poleAtRoot_98 rfl 2 rfl ?_
          obtain ⟨b28, hnb28, hb28, h⟩ := o_rq h
          refine g_get (pc := 99) (k := 3) (v := va_rf ((N a0 3).map ad)) C gcX9 inX9 (by decide) fl_Un_31 ha0 rfl d_Un_poleAtRoot_99 ?_
          refine g_top (g_rf hnb28) ?_
          refine g_iload_n (pc := 102) C d_Un_poleAtRoot_102 rfl 1 rfl ?_
          refine g_i2l (pc := 103) C d_Un_poleAtRoot_103 ?_
          refine g_iload (pc := 104) C d_Un_poleAtRoot_104 0 rfl ?_
          refine g_i2l (pc := 106) C d_Un_poleAtRoot_106 ?_
          obtain ⟨r29, hc30, h⟩ := o_bn1 h
          refine g_V (pc := 107) (rest := [.long (-v11).toInt64, .long r26, .ref (ad b23)]) C (k_Po_valueAtMinus (xl X) hb28 hc30) sm_Po_valueAtMinus ml_Un_157 im_Po_valueAtMinus se_Po_valueAtMinus gcX6 rfl hb28 ⟨rfl, rfl, Nat.le_of_ble_eq_true rfl, Nat.le_of_ble_eq_true rfl⟩ ⟨Nat.zero_le _, Nat.zero_le _⟩ rfl rfl (Nat.le_of_ble_eq_true rfl) d_Un_poleAtRoot_107 [.long r29, .long (-v11).toInt64, .long r26, .ref (ad b23)] rfl ?_
          refine g_lmul (pc := 110) C d_Un_poleAtRoot_110 ?_
          obtain ⟨J31, hc32, h⟩ := o_bn1 h
          refine g_V (pc := 111) (rest := []) C (k_Fr_put (xl X) hb23 hc32) sm_Fr_put ml_Un_84 im_Fr_put se_Fr_put gcX2 rfl hb23 ⟨rfl, rfl, Nat.le_of_ble_eq_true rfl, Nat.le_of_ble_eq_true rfl⟩ ⟨Nat.zero_le _, Nat.zero_le _⟩ rfl rfl (Nat.le_of_ble_eq_true rfl) d_Un_poleAtRoot_111 [] rfl ?_
          refine g_aload_n (pc := 114) C d_Un_poleAtRoot_114 rfl 2 rfl ?_
          obtain ⟨b33, hnb33, hb33, h⟩ := o_rq h
          refine g_get (pc := 115) (k := 4) (v := va_rf ((N a0 4).map ad)) C gcX9 inX9 (by decide) fl_Un_38 ha0 rfl d_Un_poleAtRoot_115 ?_
          refine g_top (g_rf hnb33) ?_
          refine g_getN (pc := 118) (k := 0) (v := .long (J31 b33 0)) C gcX2 inX2 (by decide) fl_Un_88 hb33 rfl d_Un_poleAtRoot_118 ?_
          refine g_lconst (pc := 121) C (0 : Int64) d_Un_poleAtRoot_121 (by decide) ?_
          refine g_lcmp_ne (pc := 122) C 128 d_Un_poleAtRoot_122 d_Un_poleAtRoot_123 rfl (fun e34 => ?_) (fun e34 => ?_)
          · have h := o_neg e34 h
            refine g_aload_n (pc := 128) C d_Un_poleAtRoot_128 rfl 2 rfl ?_
            obtain ⟨b35, hnb35, hb35, h⟩ := o_rq h
            refine g_get (pc := 129) (k := 4) (v := va_rf ((N a0 4).map ad)) C gcX9 inX9 (by decide) fl_Un_38 ha0 rfl d_Un_poleAtRoot_129 ?_
            refine g_top (g_rf hnb35) ?_
            refine g_getN (pc := 132) (k := 0) (v := .long (J31 b35 0)) C gcX2 inX2 (by decide) fl_Un_88 hb35 rfl d_Un_poleAtRoot_132 ?_
            refine g_lconst (pc := 135) C (0 : Int64) d_Un_poleAtRoot_135 (by decide) ?_
            refine g_lcmp_ge (pc := 136) C 147 d_Un_poleAtRoot_136 d_Un_poleAtRoot_137 rfl (fun e36 => ?_) (fun e36 => ?_)
            · have h := o_pos e36 h
              refine g_aload_n (pc := 147) C d_Un_poleAtRoot_147 rfl 2 rfl ?_
              obtain ⟨b37, hnb37, hb37, h⟩ := o_rq h
              refine g_get (pc := 148) (k := 5) (v := va_rf ((N a0 5).map ad)) C gcX9 inX9 (by decide) fl_Un_42 ha0 rfl d_Un_poleAtRoot_148 ?_
              refine g_top (g_rf hnb37) ?_
              refine g_aload_n (pc := 151) C d_Un_poleAtRoot_151 rfl 2 rfl ?_
              obtain ⟨b38, hnb38, hb38, h⟩ := o_rq h
              refine g_get (pc := 152) (k := 4) (v := va_rf ((N a0 4).map ad)) C gcX9 inX9 (by decide) fl_Un_38 ha0 rfl d_Un_poleAtRoot_152 ?_
              refine g_top (g_rf hnb38) ?_
              refine g_getN (pc := 155) (k := 0) (v := .long (J31 b38 0)) C gcX2 inX2 (by decide) fl_Un_88 hb38 rfl d_Un_poleAtRoot_155 ?_
              refine g_iload (pc := 158) C d_Un_poleAtRoot_158 0 rfl ?_
              refine g_i2l (pc := 160) C d_Un_poleAtRoot_160 ?_
              refine g_lmul (pc := 161) C d_Un_poleAtRoot_161 ?_
              refine g_aload_n (pc := 162) C d_Un_poleAtRoot_162 rfl 2 rfl ?_
              obtain ⟨b39, hnb39, hb39, h⟩ := o_rq h
              refine g_get (pc := 163) (k := 4) (v := va_rf ((N a0 4).map ad)) C gcX9 inX9 (by decide) fl_Un_38 ha0 rfl d_Un_poleAtRoot_163 ?_
              refine g_top (g_rf hnb39) ?_
              refine g_getN (pc := 166) (k := 1) (v := .long (J31 b39 1)) C gcX2 inX2 (by decide) fl_Un_174 hb39 rfl d_Un_poleAtRoot_166 ?_
              refine g_iload_n (pc := 169) C d_Un_poleAtRoot_169 rfl 1 rfl ?_
              refine g_i2l (pc := 170) C d_Un_poleAtRoot_170 ?_
              refine g_lmul (pc := 171) C d_Un_poleAtRoot_171 ?_
              obtain ⟨J40, hc41, h⟩ := o_bn1 h
              refine g_V (pc := 172) (rest := []) C (k_Fr_put (xl X) hb37 hc41) sm_Fr_put ml_Un_84 im_Fr_put se_Fr_put gcX2 rfl hb37 ⟨rfl, rfl, Nat.le_of_ble_eq_true rfl, Nat.le_of_ble_eq_true rfl⟩ ⟨Nat.zero_le _, Nat.zero_le _⟩ rfl rfl (Nat.le_of_ble_eq_true rfl) d_Un_poleAtRoot_172 [] rfl ?_
              refine g_aload_n (pc := 175) C d_Un_poleAtRoot_175 rfl 2 rfl ?_
              obtain ⟨b42, hnb42, hb42, h⟩ := o_rq h
              refine g_get (pc := 176) (k := 4) (v := va_rf ((N a0 4).map ad)) C gcX9 inX9 (by decide) fl_Un_38 ha0 rfl d_Un_poleAtRoot_176 ?_
              refine g_top (g_rf hnb42) ?_
              obtain ⟨r43, hc44, h⟩ := o_bn1 h
              refine g_V (pc := 179) (rest := []) C (k_Fr_isHandy (xl X) hb42 hc44) sm_Fr_isHandy ml_Un_95 im_Fr_isHandy se_Fr_isHandy gcX2 rfl hb42 ⟨rfl, rfl, Nat.le_of_ble_eq_true rfl, Nat.le_of_ble_eq_true rfl⟩ ⟨Nat.zero_le _, Nat.zero_le _⟩ rfl rfl (Nat.le_of_ble_eq_true rfl) d_Un_poleAtRoot_179 [.int r43] rfl ?_
              refine g_if_eq (pc := 182) C 195 d_Un_poleAtRoot_182 rfl (fun e45 => ?_) (fun e45 => ?_)
              · have h := o_pos e45 h
                refine g_bipush (pc := 195) C (-5 : Int32) d_Un_poleAtRoot_195 (by decide) ?_
                obtain rfl := o_ret h
                exact g_iret (pc := 197) C d_Un_poleAtRoot_197
              · have h := o_neg e45 h
                refine g_aload_n (pc := 185) C d_Un_poleAtRoot_185 rfl 2 rfl ?_
                obtain ⟨b46, hnb46, hb46, h⟩ := o_rq h
                refine g_get (pc := 186) (k := 5) (v := va_rf ((N a0 5).map ad)) C gcX9 inX9 (by decide) fl_Un_42 ha0 rfl d_Un_poleAtRoot_186 ?_
                refine g_top (g_rf hnb46) ?_
                obtain ⟨r47, hc48, h⟩ := o_bn1 h
                refine g_V (pc := 189) (rest := []) C (k_Fr_isHandy (xl X) hb46 hc48) sm_Fr_isHandy ml_Un_95 im_Fr_isHandy se_Fr_isHandy gcX2 rfl hb46 ⟨rfl, rfl, Nat.le_of_ble_eq_true rfl, Nat.le_of_ble_eq_true rfl⟩ ⟨Nat.zero_le _, Nat.zero_le _⟩ rfl rfl (Nat.le_of_ble_eq_true rfl) d_Un_poleAtRoot_189 [.int r47] rfl ?_
                refine g_if_ne (pc := 192) C 198 d_Un_poleAtRoot_192 rfl (fun e49 => ?_) (fun e49 => ?_)
                · have h := o_neg e49 h
                  refine g_aload_n (pc := 198) C d_Un_poleAtRoot_198 rfl 2 rfl ?_
                  refine g_iload_n (pc := 199) C d_Un_poleAtRoot_199 rfl 3 rfl ?_
                  obtain ⟨I50, hc51, h⟩ := o_bn1 h
                  refine g_V (pc := 200) (rest := []) C (k_Un_addBoth (xl X) ha0 hc51) sm_Un_addBoth ml_Un_176 im_Un_addBoth se_Un_addBoth gcX9 rfl ha0 ⟨rfl, rfl, Nat.le_of_ble_eq_true rfl, Nat.le_of_ble_eq_true rfl⟩ ⟨Nat.zero_le _, Nat.zero_le _⟩ rfl rfl (Nat.le_of_ble_eq_true rfl) d_Un_poleAtRoot_200 [] rfl ?_
                  refine g_iconst (pc := 203) C (0 : Int32) d_Un_poleAtRoot_203 (by decide) ?_
                  obtain rfl := o_ret h
                  exact g_iret (pc := 204) C d_Un_poleAtRoot_204
                · have h := o_pos e49 h
                  refine g_bipush (pc := 195) C (-5 : Int32) d_Un_poleAtRoot_195 (by decide) ?_
                  obtain rfl := o_ret h
                  exact g_iret (pc := 197) C d_Un_poleAtRoot_197
            · have h := o_neg e36 h
              refine g_iconst (pc := 140) C (2 : Int32) d_Un_poleAtRoot_140 (by decide) ?_
              refine g_iload_n (pc := 141) C d_Un_poleAtRoot_141 rfl 4 rfl ?_
              refine g_iadd (pc := 142) C d_Un_poleAtRoot_142 ?_
              obtain ⟨r52, hc53, h⟩ := o_bn1 h
              refine g_S (pc := 143) (rest := []) C (k_Un_unlawful (xl X)  hc53) sm_Un_unlawful ml_Un_91 st_Un_unlawful ⟨rfl, rfl, Nat.le_of_ble_eq_true rfl, Nat.le_of_ble_eq_true rfl⟩ ⟨Nat.zero_le _, Nat.zero_le _⟩ rfl rfl (Nat.le_of_ble_eq_true rfl) d_Un_poleAtRoot_143 [.int r52] rfl ?_
              obtain rfl := o_ret h
              exact g_iret (pc := 146) C d_Un_poleAtRoot_146
          · have h := o_pos e34 h
            refine g_iconst (pc := 126) C (0 : Int32) d_Un_poleAtRoot_126 (by decide) ?_
            obtain rfl := o_ret h
            exact g_iret (pc := 127) C d_Un_poleAtRoot_127
        · have h := o_neg e8 h
          refine g_lv [2] rfl ?_
          exact w_Un_poleAtRoot_28 C ha0 h
set_option maxRecDepth 20000 in
theorem k_Un_poleAtRoot (l : Launch) {I : HI} {J : HJ} {N : HN} {a0 : Nat} {p1 : Int32} {p2 : Int32} {r : HI × HJ × Int32} (ha0 : gk Tc nC a0 (0, 9)) (h : Un_poleAtRoot N a0 p1 p2 I J = some r) : gM l y_Un_poleAtRoot c_Un_poleAtRoot 5 (some .int) rm_Un_poleAtRoot Tc nC I J N (fun ad => [.ref (ad a0), .int p1, .int p2]) (r.1, r.2.1, N, fun _ => some (.int r.2.2)) :=
  g_meth (lv := fun ad => [(0, .ref (ad a0)), (1, .int p1), (2, .int p2)]) (by decide) (fun _ => Nat.le_of_ble_eq_true rfl) (fun _ => rfl) (fun X ad C => g_lv [0, 1, 2] rfl (w_Un_poleAtRoot_0 C ha0 h))
theorem d_Un_divideByPoles_0 : decode c_Un_divideByPoles 0 = .ok (.aload_n 0, 1) := by decide +kernel
theorem d_Un_divideByPoles_1 : decode c_Un_divideByPoles 1 = .ok (.aload_n 1, 1) := by decide +kernel
theorem d_Un_divideByPoles_2 : decode c_Un_divideByPoles 2 = .ok (.invokevirtual 59, 3) := by decide +kernel
theorem d_Un_divideByPoles_5 : decode c_Un_divideByPoles 5 = .ok (.iload_n 2, 1) := by decide +kernel
theorem d_Un_divideByPoles_6 : decode c_Un_divideByPoles 6 = .ok (.iconst 1, 1) := by decide +kernel
theorem d_Un_divideByPoles_7 : decode c_Un_divideByPoles 7 = .ok (.if_icmp .ne 10, 3) := by decide +kernel
theorem d_Un_divideByPoles_10 : decode c_Un_divideByPoles 10 = .ok (.aload_n 0, 1) := by decide +kernel
theorem d_Un_divideByPoles_11 : decode c_Un_divideByPoles 11 = .ok (.getfield 21, 3) := by decide +kernel
theorem d_Un_divideByPoles_14 : decode c_Un_divideByPoles 14 = .ok (.invokevirtual 73, 3) := by decide +kernel
theorem d_Un_divideByPoles_17 : decode c_Un_divideByPoles 17 = .ok (.aload_n 0, 1) := by decide +kernel
theorem d_Un_divideByPoles_18 : decode c_Un_divideByPoles 18 = .ok (.invokevirtual 125, 3) := by decide +kernel
theorem d_Un_divideByPoles_21 : decode c_Un_divideByPoles 21 = .ok (.aload_n 0, 1) := by decide +kernel
theorem d_Un_divideByPoles_22 : decode c_Un_divideByPoles 22 = .ok (.invokevirtual 128, 3) := by decide +kernel
theorem d_Un_divideByPoles_25 : decode c_Un_divideByPoles 25 = .ok (.aload_n 0, 1) := by decide +kernel
theorem d_Un_divideByPoles_26 : decode c_Un_divideByPoles 26 = .ok (.getfield 31, 3) := by decide +kernel
theorem d_Un_divideByPoles_29 : decode c_Un_divideByPoles 29 = .ok (.invokevirtual 76, 3) := by decide +kernel
theorem d_Un_divideByPoles_32 : decode c_Un_divideByPoles 32 = .ok (.aload_n 0, 1) := by decide +kernel
theorem d_Un_divideByPoles_33 : decode c_Un_divideByPoles 33 = .ok (.getfield 31, 3) := by decide +kernel
theorem d_Un_divideByPoles_36 : decode c_Un_divideByPoles 36 = .ok (.invokevirtual 122, 3) := by decide +kernel
theorem d_Un_divideByPoles_39 : decode c_Un_divideByPoles 39 = .ok (.if_icmp .eq 6, 3) := by decide +kernel
theorem d_Un_divideByPoles_42 : decode c_Un_divideByPoles 42 = .ok (.bipush (-6), 2) := by decide +kernel
theorem d_Un_divideByPoles_44 : decode c_Un_divideByPoles 44 = .ok (.ireturn, 1) := by decide +kernel
theorem d_Un_divideByPoles_45 : decode c_Un_divideByPoles 45 = .ok (.aload_n 0, 1) := by decide +kernel
theorem d_Un_divideByPoles_46 : decode c_Un_divideByPoles 46 = .ok (.iload_n 2, 1) := by decide +kernel
theorem d_Un_divideByPoles_47 : decode c_Un_divideByPoles 47 = .ok (.invokevirtual 131, 3) := by decide +kernel
theorem d_Un_divideByPoles_50 : decode c_Un_divideByPoles 50 = .ok (.istore_n 3, 1) := by decide +kernel
theorem d_Un_divideByPoles_51 : decode c_Un_divideByPoles 51 = .ok (.iload_n 3, 1) := by decide +kernel
theorem d_Un_divideByPoles_52 : decode c_Un_divideByPoles 52 = .ok (.ifCond .ne 9, 3) := by decide +kernel
theorem d_Un_divideByPoles_55 : decode c_Un_divideByPoles 55 = .ok (.aload_n 0, 1) := by decide +kernel
theorem d_Un_divideByPoles_56 : decode c_Un_divideByPoles 56 = .ok (.iload_n 2, 1) := by decide +kernel
theorem d_Un_divideByPoles_57 : decode c_Un_divideByPoles 57 = .ok (.invokevirtual 134, 3) := by decide +kernel
theorem d_Un_divideByPoles_60 : decode c_Un_divideByPoles 60 = .ok (.istore_n 3, 1) := by decide +kernel
theorem d_Un_divideByPoles_61 : decode c_Un_divideByPoles 61 = .ok (.iconst 0, 1) := by decide +kernel
theorem d_Un_divideByPoles_62 : decode c_Un_divideByPoles 62 = .ok (.istore 4, 2) := by decide +kernel
theorem d_Un_divideByPoles_64 : decode c_Un_divideByPoles 64 = .ok (.iload 4, 2) := by decide +kernel
theorem d_Un_divideByPoles_66 : decode c_Un_divideByPoles 66 = .ok (.aload_n 0, 1) := by decide +kernel
theorem d_Un_divideByPoles_67 : decode c_Un_divideByPoles 67 = .ok (.getfield 55, 3) := by decide +kernel
theorem d_Un_divideByPoles_70 : decode c_Un_divideByPoles 70 = .ok (.if_icmp .ge 21, 3) := by decide +kernel
theorem d_Un_divideByPoles_73 : decode c_Un_divideByPoles 73 = .ok (.iload_n 3, 1) := by decide +kernel
theorem d_Un_divideByPoles_74 : decode c_Un_divideByPoles 74 = .ok (.ifCond .ne 17, 3) := by decide +kernel
theorem d_Un_divideByPoles_77 : decode c_Un_divideByPoles 77 = .ok (.aload_n 0, 1) := by decide +kernel
theorem d_Un_divideByPoles_78 : decode c_Un_divideByPoles 78 = .ok (.iload_n 2, 1) := by decide +kernel
theorem d_Un_divideByPoles_79 : decode c_Un_divideByPoles 79 = .ok (.iload 4, 2) := by decide +kernel
theorem d_Un_divideByPoles_81 : decode c_Un_divideByPoles 81 = .ok (.invokevirtual 137, 3) := by decide +kernel
theorem d_Un_divideByPoles_84 : decode c_Un_divideByPoles 84 = .ok (.istore_n 3, 1) := by decide +kernel
theorem d_Un_divideByPoles_85 : decode c_Un_divideByPoles 85 = .ok (.iinc 4 1, 3) := by decide +kernel
theorem d_Un_divideByPoles_88 : decode c_Un_divideByPoles 88 = .ok (.goto (-24), 3) := by decide +kernel
theorem d_Un_divideByPoles_91 : decode c_Un_divideByPoles 91 = .ok (.iload_n 3, 1) := by decide +kernel
theorem d_Un_divideByPoles_92 : decode c_Un_divideByPoles 92 = .ok (.ifCond .ne 13, 3) := by decide +kernel
theorem d_Un_divideByPoles_95 : decode c_Un_divideByPoles 95 = .ok (.aload_n 0, 1) := by decide +kernel
theorem d_Un_divideByPoles_96 : decode c_Un_divideByPoles 96 = .ok (.getfield 12, 3) := by decide +kernel
theorem d_Un_divideByPoles_99 : decode c_Un_divideByPoles 99 = .ok (.invokevirtual 113, 3) := by decide +kernel
theorem d_Un_divideByPoles_102 : decode c_Un_divideByPoles 102 = .ok (.goto 4, 3) := by decide +kernel
theorem d_Un_divideByPoles_105 : decode c_Un_divideByPoles 105 = .ok (.iload_n 3, 1) := by decide +kernel
theorem d_Un_divideByPoles_106 : decode c_Un_divideByPoles 106 = .ok (.ireturn, 1) := by decide +kernel
set_option maxRecDepth 20000 in
theorem w_Un_divideByPoles_91 {X : HX} {ad : Nat → Nat} {I : HI} {J : HJ} {N : HN} {r : HI × HJ × HN × Int32} {a0 : Nat} {a1 : Nat} {p2 : Int32} {x3 : Int32} (C : Cx X c_Un_divideByPoles RX9 5 (some .int) rm_Un_divideByPoles) (ha0 : gk Tc nC a0 (0, 9)) (ha1 : gk Tc nC a1 (0, 5))
    (h : Un_divideByPoles_91 a0 a1 p2 I J N x3 = some r) : G Tc X ad nC 0 0 I J N (gE X Tc ad nC (r.1, r.2.1, r.2.2.1, fun _ => some (.int r.2.2.2))) 91 5 [(0, .ref (ad a0)), (3, .int x3)] [] := by
  refine g_iload_n (pc := 91) C d_Un_divideByPoles_91 rfl 1 rfl ?_
  refine g_if_ne (pc := 92) C 105 d_Un_divideByPoles_92 rfl (fun e1 => ?_) (fun e1 => ?_)
  · have h := o_neg e1 h
    refine g_iload_n (pc := 105) C d_Un_divideByPoles_105 rfl 1 rfl ?_
    obtain rfl := o_ret h
    exact g_iret (pc := 106) C d_Un_divideByPoles_106
  · have h := o_pos e1 h
    refine g_aload_n (pc := 95) C d_Un_divideByPoles_95 rfl 0 rfl ?_
    obtain ⟨b2, hnb2, hb2, h⟩ := o_rq h
    refine g_get (pc := 96) (k := 0) (v := va_rf ((N a0 0).map ad)) C gcX9 inX9 (by decide) fl_Un_12 ha0 rfl d_Un_divideByPoles_96 ?_
    refine g_top (g_rf hnb2) ?_
    obtain ⟨r3, hc4, h⟩ := o_bn1 h
    refine g_V (pc := 99) (rest := []) C (k_La_valueCount (xl X) hb2 hc4) sm_La_valueCount ml_Un_113 im_La_valueCount se_La_valueCount gcX3 rfl hb2 ⟨rfl, rfl, Nat.le_of_ble_eq_true rfl, Nat.le_of_ble_eq_true rfl⟩ ⟨Nat.zero_le _, Nat.zero_le _⟩ rfl rfl (Nat.le_of_ble_eq_true rfl) d_Un_divideByPoles_99 [.int r3] rfl ?_
    refine g_goto (pc := 102) C 106 d_Un_divideByPoles_102 rfl ?_
    obtain rfl := o_ret h
    exact g_iret (pc := 106) C d_Un_divideByPoles_106
set_option maxRecDepth 20000 in
theorem w_Un_divideByPoles_64b {X : HX} {ad : Nat → Nat} {I : HI} {J : HJ} {N : HN} {r : HI × HJ × HN × Int32} {k64 : HI → HJ → HN → Int32 → Int32 → Option (HI × HJ × HN × Int32)} {a0 : Nat} {a1 : Nat} {p2 : Int32} {x3 : Int32} {x4 : Int32} (C : Cx X c_Un_divideByPoles RX9 5 (some .int) rm_Un_divideByPoles) (ha0 : gk Tc nC a0 (0, 9)) (ha1 : gk Tc nC a1 (0, 5))
    (hk64 : ∀ (I : HI) (J : HJ) (N : HN) (x3 : Int32) (x4 : Int32), k64 I J N x3 x4 = some r → G Tc X ad nC 0 0 I J N (gE X Tc ad nC (r.1, r.2.1, r.2.2.1, fun _ => some (.int r.2.2.2))) 64 5 [(0, .ref (ad a0)), (2, .int p2), (3, .int x3), (4, .int x4)] [])
    (h : Un_divideByPoles_64b a0 a1 p2 k64 I J N x3 x4 = some r) : G Tc X ad nC 0 0 I J N (gE X Tc ad nC (r.1, r.2.1, r.2.2.1, fun _ => some (.int r.2.2.2))) 64 5 [(0, .ref (ad a0)), (2, .int p2), (3, .int x3), (4, .int x4)] [] := by
  refine g_iload (pc := 64) C d_Un_divideByPoles_64 3 rfl ?_
  refine g_aload_n (pc := 66) C d_Un_divideByPoles_66 rfl 0 rfl ?_
  refine g_get (pc := 67) (k := 9) (v := .int (I a0 9)) C gcX9 inX9 (by decide) fl_Un_55 ha0 rfl d_Un_divideByPoles_67 ?_
  refine g_icmp_ge (pc := 70) C 91 d_Un_divideByPoles_70 rfl (fun e1 => ?_) (fun e1 => ?_)
  · have h := o_pos e1 h
    refine g_lv [0, 2] rfl ?_
    exact w_Un_divideByPoles_91 C ha0 ha1 h
  · have h := o_neg e1 h
    refine g_iload_n (pc := 73) C d_Un_divideByPoles_73 rfl 2 rfl ?_
    refine g_if_ne (pc := 74) C 91 d_Un_divideByPoles_74 rfl (fun e2 => ?_) (fun e2 => ?_)
    · have h := o_neg e2 h
      refine g_lv [0, 2] rfl ?_
      exact w_Un_divideByPoles_91 C ha0 ha1 h
    · have h := o_pos e2 h
      refine g_aload_n (pc := 77) C d_Un_divideByPoles_77 rfl 0 rfl ?_
      refine g_iload_n (pc := 78) C d_Un_divideByPoles_78 rfl 1 rfl ?_
      refine g_iload (pc := 79) C d_Un_divideByPoles_79 3 rfl ?_
      obtain ⟨I3, J4, r5, hc6, h⟩ := o_bn3 h
      refine g_V (pc := 81) (rest := []) C (k_Un_poleAtRoot (xl X) ha0 hc6) sm_Un_poleAtRoot ml_Un_137 im_Un_poleAtRoot se_Un_poleAtRoot gcX9 rfl ha0 ⟨rfl, rfl, Nat.le_of_ble_eq_true rfl, Nat.le_of_ble_eq_true rfl⟩ ⟨Nat.zero_le _, Nat.zero_le _⟩ rfl rfl (Nat.le_of_ble_eq_true rfl) d_Un_divideByPoles_81 [.int r5] rfl ?_
      refine g_istore_n (pc := 84) (lv' := [(3, .int r5), (0, .ref (ad a0)), (2, .int p2), (4, .int x4)]) C d_Un_divideByPoles_84 rfl (by decide) rfl ?_
      refine g_iinc (pc := 85) (q := 3) (lv' := [(4, .int (x4 + 1)), (3, .int r5), (0, .ref (ad a0)), (2, .int p2)]) C d_Un_divideByPoles_85 rfl rfl (by decide) rfl ?_
      refine g_goto (pc := 88) C 64 d_Un_divideByPoles_88 rfl ?_
      refine g_lv [2, 3, 1, 0] rfl ?_
      exact hk64 _ _ _ _ _ h
set_option maxRecDepth 20000 in
theorem w_Un_divideByPoles_64 {X : HX} {ad : Nat → Nat} {r : HI × HJ × HN × Int32} {a0 : Nat} {a1 : Nat} {p2 : Int32} (C : Cx X c_Un_divideByPoles RX9 5 (some .int) rm_Un_divideByPoles) (ha0 : gk Tc nC a0 (0, 9)) (ha1 : gk Tc nC a1 (0, 5)) : ∀ (n : Nat) (I : HI) (J : HJ) (N : HN) (x3 : Int32) (x4 : Int32), Un_divideByPoles_64 a0 a1 p2 n I J N x3 x4 = some r → G Tc X ad nC 0 0 I J N (gE X Tc ad nC (r.1, r.2.1, r.2.2.1, fun _ => some (.int r.2.2.2))) 64 5 [(0, .ref (ad a0)), (2, .int p2), (3, .int x3), (4, .int x4)] [] := by
  intro n
  induction n with
  | zero => intro I J N x3 x4 h; cases h
  | succ n ih => intro I J N x3 x4 h; exact w_Un_divideByPoles_64b C ha0 ha1 ih h
set_option maxRecDepth 20000 in
theorem w_Un_divideByPoles_61 {X : HX} {ad : Nat → Nat} {I : HI} {J : HJ} {N : HN} {r : HI × HJ × HN × Int32} {a0 : Nat} {a1 : Nat} {p2 : Int32} {x3 : Int32} (C : Cx X c_Un_divideByPoles RX9 5 (some .int) rm_Un_divideByPoles) (ha0 : gk Tc nC a0 (0, 9)) (ha1 : gk Tc nC a1 (0, 5))
    (h : Un_divideByPoles_61 a0 a1 p2 I J N x3 = some r) : G Tc X ad nC 0 0 I J N (gE X Tc ad nC (r.1, r.2.1, r.2.2.1, fun _ => some (.int r.2.2.2))) 61 5 [(0, .ref (ad a0)), (2, .int p2), (3, .int x3)] [] := by
  refine g_iconst (pc := 61) C (0 : Int32) d_Un_divideByPoles_61 (by decide) ?_
  refine g_istore (pc := 62) (lv' := [(4, .int (0 : Int32)), (0, .ref (ad a0)), (2, .int p2), (3, .int x3)]) C d_Un_divideByPoles_62 (by decide) rfl ?_
  refine g_lv [1, 2, 3, 0] rfl ?_
  exact w_Un_divideByPoles_64 C ha0 ha1 _ _ _ _ _ _ h
set_option maxRecDepth 20000 in
theorem w_Un_divideByPoles_17 {X : HX} {ad : Nat → Nat} {I : HI} {J : HJ} {N : HN} {r : HI × HJ × HN × Int32} {a0 : Nat} {a1 : Nat} {p2 : Int32} (C : Cx X c_Un_divideByPoles RX9 5 (some .int) rm_Un_divideByPoles) (ha0 : gk Tc nC a0 (0, 9)) (ha1 : gk Tc nC a1 (0, 5))
    (h : Un_divideByPoles_17 a0 a1 p2 I J N = some r) : G Tc X ad nC 0 0 I J N (gE X Tc ad nC (r.1, r.2.1, r.2.2.1, fun _ => some (.int r.2.2.2))) 17 5 [(0, .ref (ad a0)), (2, .int p2)] [] := by
  refine g_aload_n (pc := 17) C d_Un_divideByPoles_17 rfl 0 rfl ?_
  obtain ⟨J1, hc2, h⟩ := o_bn1 h
  refine g_V (pc := 18) (rest := []) C (k_Un_loadInX (xl X) ha0 hc2) sm_Un_loadInX ml_Un_125 im_Un_loadInX se_Un_loadInX gcX9 rfl ha0 ⟨rfl, rfl, Nat.le_of_ble_eq_true rfl, Nat.le_of_ble_eq_true rfl⟩ ⟨Nat.zero_le _, Nat.zero_le _⟩ rfl rfl (Nat.le_of_ble_eq_true rfl) d_Un_divideByPoles_18 [] rfl ?_
  refine g_aload_n (pc := 21) C d_Un_divideByPoles_21 rfl 0 rfl ?_
  obtain ⟨I3, J4, hc5, h⟩ := o_bn2 h
  refine g_V (pc := 22) (rest := []) C (k_Un_findRoots (xl X) ha0 hc5) sm_Un_findRoots ml_Un_128 im_Un_findRoots se_Un_findRoots gcX9 rfl ha0 ⟨rfl, rfl, Nat.le_of_ble_eq_true rfl, Nat.le_of_ble_eq_true rfl⟩ ⟨Nat.zero_le _, Nat.zero_le _⟩ rfl rfl (Nat.le_of_ble_eq_true rfl) d_Un_divideByPoles_22 [] rfl ?_
  refine g_aload_n (pc := 25) C d_Un_divideByPoles_25 rfl 0 rfl ?_
  obtain ⟨b6, hnb6, hb6, h⟩ := o_rq h
  refine g_get (pc := 26) (k := 3) (v := va_rf ((N a0 3).map ad)) C gcX9 inX9 (by decide) fl_Un_31 ha0 rfl d_Un_divideByPoles_26 ?_
  refine g_top (g_rf hnb6) ?_
  obtain ⟨r7, hc8, h⟩ := o_bn1 h
  refine g_V (pc := 29) (rest := []) C (k_Po_degree (xl X) hb6 hc8) sm_Po_degree ml_Un_76 im_Po_degree se_Po_degree gcX6 rfl hb6 ⟨rfl, rfl, Nat.le_of_ble_eq_true rfl, Nat.le_of_ble_eq_true rfl⟩ ⟨Nat.zero_le _, Nat.zero_le _⟩ rfl rfl (Nat.le_of_ble_eq_true rfl) d_Un_divideByPoles_29 [.int r7] rfl ?_
  refine g_aload_n (pc := 32) C d_Un_divideByPoles_32 rfl 0 rfl ?_
  obtain ⟨b9, hnb9, hb9, h⟩ := o_rq h
  refine g_get (pc := 33) (k := 3) (v := va_rf ((N a0 3).map ad)) C gcX9 inX9 (by decide) fl_Un_31 ha0 rfl d_Un_divideByPoles_33 ?_
  refine g_top (g_rf hnb9) ?_
  obtain ⟨r10, hc11, h⟩ := o_bn1 h
  refine g_V (pc := 36) (rest := [.int r7]) C (k_Po_leastPower (xl X) hb9 hc11) sm_Po_leastPower ml_Un_122 im_Po_leastPower se_Po_leastPower gcX6 rfl hb9 ⟨rfl, rfl, Nat.le_of_ble_eq_true rfl, Nat.le_of_ble_eq_true rfl⟩ ⟨Nat.zero_le _, Nat.zero_le _⟩ rfl rfl (Nat.le_of_ble_eq_true rfl) d_Un_divideByPoles_36 [.int r10, .int r7] rfl ?_
  refine g_icmp_eq (pc := 39) C 45 d_Un_divideByPoles_39 rfl (fun e12 => ?_) (fun e12 => ?_)
  · have h := o_pos e12 h
    refine g_aload_n (pc := 45) C d_Un_divideByPoles_45 rfl 0 rfl ?_
    refine g_iload_n (pc := 46) C d_Un_divideByPoles_46 rfl 1 rfl ?_
    obtain ⟨I13, J14, r15, hc16, h⟩ := o_bn3 h
    refine g_V (pc := 47) (rest := []) C (k_Un_poleAtGreatest (xl X) ha0 hc16) sm_Un_poleAtGreatest ml_Un_131 im_Un_poleAtGreatest se_Un_poleAtGreatest gcX9 rfl ha0 ⟨rfl, rfl, Nat.le_of_ble_eq_true rfl, Nat.le_of_ble_eq_true rfl⟩ ⟨Nat.zero_le _, Nat.zero_le _⟩ rfl rfl (Nat.le_of_ble_eq_true rfl) d_Un_divideByPoles_47 [.int r15] rfl ?_
    refine g_istore_n (pc := 50) (lv' := [(3, .int r15), (0, .ref (ad a0)), (2, .int p2)]) C d_Un_divideByPoles_50 rfl (by decide) rfl ?_
    refine g_iload_n (pc := 51) C d_Un_divideByPoles_51 rfl 0 rfl ?_
    refine g_if_ne (pc := 52) C 61 d_Un_divideByPoles_52 rfl (fun e17 => ?_) (fun e17 => ?_)
    · have h := o_neg e17 h
      refine g_lv [1, 2, 0] rfl ?_
      exact w_Un_divideByPoles_61 C ha0 ha1 h
    · have h := o_pos e17 h
      refine g_aload_n (pc := 55) C d_Un_divideByPoles_55 rfl 1 rfl ?_
      refine g_iload_n (pc := 56) C d_Un_divideByPoles_56 rfl 2 rfl ?_
      obtain ⟨I18, J19, r20, hc21, h⟩ := o_bn3 h
      refine g_V (pc := 57) (rest := []) C (k_Un_poleAtZero (xl X) ha0 hc21) sm_Un_poleAtZero ml_Un_134 im_Un_poleAtZero se_Un_poleAtZero gcX9 rfl ha0 ⟨rfl, rfl, Nat.le_of_ble_eq_true rfl, Nat.le_of_ble_eq_true rfl⟩ ⟨Nat.zero_le _, Nat.zero_le _⟩ rfl rfl (Nat.le_of_ble_eq_true rfl) d_Un_divideByPoles_57 [.int r20] rfl ?_
      refine g_istore_n (pc := 60) (lv' := [(3, .int r20), (0, .ref (ad a0)), (2, .int p2)]) C d_Un_divideByPoles_60 rfl (by decide) rfl ?_
      refine g_lv [1, 2, 0] rfl ?_
      exact w_Un_divideByPoles_61 C ha0 ha1 h
  · have h := o_neg e12 h
    refine g_bipush (pc := 42) C (-6 : Int32) d_Un_divideByPoles_42 (by decide) ?_
    obtain rfl := o_ret h
    exact g_iret (pc := 44) C d_Un_divideByPoles_44
set_option maxRecDepth 20000 in
theorem w_Un_divideByPoles_0 {X : HX} {ad : Nat → Nat} {I : HI} {J : HJ} {N : HN} {r : HI × HJ × HN × Int32} {a0 : Nat} {a1 : Nat} {p2 : Int32} (C : Cx X c_Un_divideByPoles RX9 5 (some .int) rm_Un_divideByPoles) (ha0 : gk Tc nC a0 (0, 9)) (ha1 : gk Tc nC a1 (0, 5))
    (h : Un_divideByPoles_0 a0 a1 p2 I J N = some r) : G Tc X ad nC 0 0 I J N (gE X Tc ad nC (r.1, r.2.1, r.2.2.1, fun _ => some (.int r.2.2.2))) 0 5 [(0, .ref (ad a0)), (1, .ref (ad a1)), (2, .int p2)] [] := by
  refine g_aload_n (pc := 0) C d_Un_divideByPoles_0 rfl 0 rfl ?_
  refine g_aload_n (pc := 1) C d_Un_divideByPoles_1 rfl 1 rfl ?_
  obtain ⟨I1, J2, hc3, h⟩ := o_bn2 h
  refine g_V (pc := 2) (rest := []) C (k_Un_begin (xl X) ha0 ha1 hc3) sm_Un_begin ml_Un_59 im_Un_begin se_Un_begin gcX9 rfl ha0 ⟨rfl, rfl, Nat.le_of_ble_eq_true rfl, Nat.le_of_ble_eq_true rfl⟩ ⟨Nat.zero_le _, Nat.zero_le _⟩ rfl rfl (Nat.le_of_ble_eq_true rfl) d_Un_divideByPoles_2 [] rfl ?_
  refine g_iload_n (pc := 5) C d_Un_divideByPoles_5 rfl 2 rfl ?_
  refine g_iconst (pc := 6) C (1 : Int32) d_Un_divideByPoles_6 (by decide) ?_
  refine g_icmp_ne (pc := 7) C 17 d_Un_divideByPoles_7 rfl (fun e4 => ?_) (fun e4 => ?_)
  · have h := o_neg e4 h
    refine g_lv [0, 2] rfl ?_
    exact w_Un_divideByPoles_17 C ha0 ha1 h
  · have h := o_pos e4 h
    refine g_aload_n (pc := 10) C d_Un_divideByPoles_10 rfl 0 rfl ?_
    obtain ⟨b5, hnb5, hb5, h⟩ := o_rq h
    refine g_get (pc := 11) (k := 1) (v := va_rf ((N a0 1).map ad)) C gcX9 inX9 (by decide) fl_Un_21 ha0 rfl d_Un_divideByPoles_11 ?_
    refine g_top (g_rf hnb5) ?_
    obtain ⟨N6, hc7, h⟩ := o_bn1 h
    refine g_V (pc := 14) (rest := []) C (k_Pa_swap (xl X) hb5 hc7) sm_Pa_swap ml_Un_73 im_Pa_swap se_Pa_swap gcX5 rfl hb5 ⟨rfl, rfl, Nat.le_of_ble_eq_true rfl, Nat.le_of_ble_eq_true rfl⟩ ⟨Nat.zero_le _, Nat.zero_le _⟩ rfl rfl (Nat.le_of_ble_eq_true rfl) d_Un_divideByPoles_14 [] rfl ?_
    refine g_lv [0, 2] rfl ?_
    exact w_Un_divideByPoles_17 C ha0 ha1 h
set_option maxRecDepth 20000 in
theorem k_Un_divideByPoles (l : Launch) {I : HI} {J : HJ} {N : HN} {a0 : Nat} {a1 : Nat} {p2 : Int32} {r : HI × HJ × HN × Int32} (ha0 : gk Tc nC a0 (0, 9)) (ha1 : gk Tc nC a1 (0, 5)) (h : Un_divideByPoles a0 a1 p2 I J N = some r) : gM l y_Un_divideByPoles c_Un_divideByPoles 5 (some .int) rm_Un_divideByPoles Tc nC I J N (fun ad => [.ref (ad a0), .ref (ad a1), .int p2]) (r.1, r.2.1, r.2.2.1, fun _ => some (.int r.2.2.2)) :=
  g_meth (lv := fun ad => [(0, .ref (ad a0)), (1, .ref (ad a1)), (2, .int p2)]) (by decide) (fun _ => Nat.le_of_ble_eq_true rfl) (fun _ => rfl) (fun X ad C => g_lv [0, 1, 2] rfl (w_Un_divideByPoles_0 C ha0 ha1 h))
theorem d_Lm_isPlace_0 : decode c_Lm_isPlace 0 = .ok (.iload_n 0, 1) := by decide +kernel
theorem d_Lm_isPlace_1 : decode c_Lm_isPlace 1 = .ok (.ifCond .eq 8, 3) := by decide +kernel
theorem d_Lm_isPlace_4 : decode c_Lm_isPlace 4 = .ok (.iload_n 0, 1) := by decide +kernel
theorem d_Lm_isPlace_5 : decode c_Lm_isPlace 5 = .ok (.iconst 1, 1) := by decide +kernel
theorem d_Lm_isPlace_6 : decode c_Lm_isPlace 6 = .ok (.if_icmp .ne 7, 3) := by decide +kernel
theorem d_Lm_isPlace_9 : decode c_Lm_isPlace 9 = .ok (.iconst 1, 1) := by decide +kernel
theorem d_Lm_isPlace_10 : decode c_Lm_isPlace 10 = .ok (.goto 4, 3) := by decide +kernel
theorem d_Lm_isPlace_13 : decode c_Lm_isPlace 13 = .ok (.iconst 0, 1) := by decide +kernel
theorem d_Lm_isPlace_14 : decode c_Lm_isPlace 14 = .ok (.ireturn, 1) := by decide +kernel
set_option maxRecDepth 20000 in
theorem w_Lm_isPlace_0 {X : HX} {ad : Nat → Nat} {I : HI} {J : HJ} {N : HN} {r : Int32} {p0 : Int32} (C : Cx X c_Lm_isPlace RX10 1 (some .boolean) rm_Lm_isPlace)
    (h : Lm_isPlace_0 p0 = some r) : G Tc X ad nC 0 0 I J N (gE X Tc ad nC (I, J, N, fun _ => some (.int r))) 0 1 [(0, .int p0)] [] := by
  refine g_iload_n (pc := 0) C d_Lm_isPlace_0 rfl 0 rfl ?_
  refine g_if_eq (pc := 1) C 9 d_Lm_isPlace_1 rfl (fun e1 => ?_) (fun e1 => ?_)
  · have h := o_pos e1 h
    refine g_iconst (pc := 9) C (1 : Int32) d_Lm_isPlace_9 (by decide) ?_
    refine g_goto (pc := 10) C 14 d_Lm_isPlace_10 rfl ?_
    obtain rfl := o_ret h
    exact g_zret (pc := 14) C zn_1 d_Lm_isPlace_14
  · have h := o_neg e1 h
    refine g_iload_n (pc := 4) C d_Lm_isPlace_4 rfl 0 rfl ?_
    refine g_iconst (pc := 5) C (1 : Int32) d_Lm_isPlace_5 (by decide) ?_
    refine g_icmp_ne (pc := 6) C 13 d_Lm_isPlace_6 rfl (fun e2 => ?_) (fun e2 => ?_)
    · have h := o_neg e2 h
      refine g_iconst (pc := 13) C (0 : Int32) d_Lm_isPlace_13 (by decide) ?_
      obtain rfl := o_ret h
      exact g_zret (pc := 14) C zn_0 d_Lm_isPlace_14
    · have h := o_pos e2 h
      refine g_iconst (pc := 9) C (1 : Int32) d_Lm_isPlace_9 (by decide) ?_
      refine g_goto (pc := 10) C 14 d_Lm_isPlace_10 rfl ?_
      obtain rfl := o_ret h
      exact g_zret (pc := 14) C zn_1 d_Lm_isPlace_14
set_option maxRecDepth 20000 in
theorem k_Lm_isPlace (l : Launch) {I : HI} {J : HJ} {N : HN} {p0 : Int32} {r : Int32} (h : Lm_isPlace p0 = some r) : gM l y_Lm_isPlace c_Lm_isPlace 1 (some .boolean) rm_Lm_isPlace Tc nC I J N (fun ad => [.int p0]) (I, J, N, fun _ => some (.int r)) :=
  g_meth (lv := fun ad => [(0, .int p0)]) (by decide) (fun _ => Nat.le_of_ble_eq_true rfl) (fun _ => rfl) (fun X ad C => g_lv [0] rfl (w_Lm_isPlace_0 C  h))
theorem d_Lm_isPower_0 : decode c_Lm_isPower 0 = .ok (.iload_n 0, 1) := by decide +kernel
theorem d_Lm_isPower_1 : decode c_Lm_isPower 1 = .ok (.ifCond .lt 13, 3) := by decide +kernel
theorem d_Lm_isPower_4 : decode c_Lm_isPower 4 = .ok (.iload_n 0, 1) := by decide +kernel
theorem d_Lm_isPower_5 : decode c_Lm_isPower 5 = .ok (.bipush 7, 2) := by decide +kernel
theorem d_Lm_isPower_7 : decode c_Lm_isPower 7 = .ok (.if_icmp .ge 7, 3) := by decide +kernel
theorem d_Lm_isPower_10 : decode c_Lm_isPower 10 = .ok (.iconst 1, 1) := by decide +kernel
theorem d_Lm_isPower_11 : decode c_Lm_isPower 11 = .ok (.goto 4, 3) := by decide +kernel
theorem d_Lm_isPower_14 : decode c_Lm_isPower 14 = .ok (.iconst 0, 1) := by decide +kernel
theorem d_Lm_isPower_15 : decode c_Lm_isPower 15 = .ok (.ireturn, 1) := by decide +kernel
set_option maxRecDepth 20000 in
theorem w_Lm_isPower_0 {X : HX} {ad : Nat → Nat} {I : HI} {J : HJ} {N : HN} {r : Int32} {p0 : Int32} (C : Cx X c_Lm_isPower RX10 1 (some .boolean) rm_Lm_isPower)
    (h : Lm_isPower_0 p0 = some r) : G Tc X ad nC 0 0 I J N (gE X Tc ad nC (I, J, N, fun _ => some (.int r))) 0 1 [(0, .int p0)] [] := by
  refine g_iload_n (pc := 0) C d_Lm_isPower_0 rfl 0 rfl ?_
  refine g_if_lt (pc := 1) C 14 d_Lm_isPower_1 rfl (fun e1 => ?_) (fun e1 => ?_)
  · have h := o_pos e1 h
    refine g_iconst (pc := 14) C (0 : Int32) d_Lm_isPower_14 (by decide) ?_
    obtain rfl := o_ret h
    exact g_zret (pc := 15) C zn_0 d_Lm_isPower_15
  · have h := o_neg e1 h
    refine g_iload_n (pc := 4) C d_Lm_isPower_4 rfl 0 rfl ?_
    refine g_bipush (pc := 5) C (7 : Int32) d_Lm_isPower_5 (by decide) ?_
    refine g_icmp_ge (pc := 7) C 14 d_Lm_isPower_7 rfl (fun e2 => ?_) (fun e2 => ?_)
    · have h := o_pos e2 h
      refine g_iconst (pc := 14) C (0 : Int32) d_Lm_isPower_14 (by decide) ?_
      obtain rfl := o_ret h
      exact g_zret (pc := 15) C zn_0 d_Lm_isPower_15
    · have h := o_neg e2 h
      refine g_iconst (pc := 10) C (1 : Int32) d_Lm_isPower_10 (by decide) ?_
      refine g_goto (pc := 11) C 15 d_Lm_isPower_11 rfl ?_
      obtain rfl := o_ret h
      exact g_zret (pc := 15) C zn_1 d_Lm_isPower_15
set_option maxRecDepth 20000 in
theorem k_Lm_isPower (l : Launch) {I : HI} {J : HJ} {N : HN} {p0 : Int32} {r : Int32} (h : Lm_isPower p0 = some r) : gM l y_Lm_isPower c_Lm_isPower 1 (some .boolean) rm_Lm_isPower Tc nC I J N (fun ad => [.int p0]) (I, J, N, fun _ => some (.int r)) :=
  g_meth (lv := fun ad => [(0, .int p0)]) (by decide) (fun _ => Nat.le_of_ble_eq_true rfl) (fun _ => rfl) (fun X ad C => g_lv [0] rfl (w_Lm_isPower_0 C  h))
theorem d_Lm_isWishNumber_0 : decode c_Lm_isWishNumber 0 = .ok (.lload_n 0, 1) := by decide +kernel
theorem d_Lm_isWishNumber_1 : decode c_Lm_isWishNumber 1 = .ok (.ldc2_w 312, 3) := by decide +kernel
theorem d_Lm_isWishNumber_4 : decode c_Lm_isWishNumber 4 = .ok (.lcmp, 1) := by decide +kernel
theorem d_Lm_isWishNumber_5 : decode c_Lm_isWishNumber 5 = .ok (.ifCond .lt 15, 3) := by decide +kernel
theorem d_Lm_isWishNumber_8 : decode c_Lm_isWishNumber 8 = .ok (.lload_n 0, 1) := by decide +kernel
theorem d_Lm_isWishNumber_9 : decode c_Lm_isWishNumber 9 = .ok (.ldc2_w 314, 3) := by decide +kernel
theorem d_Lm_isWishNumber_12 : decode c_Lm_isWishNumber 12 = .ok (.lcmp, 1) := by decide +kernel
theorem d_Lm_isWishNumber_13 : decode c_Lm_isWishNumber 13 = .ok (.ifCond .gt 7, 3) := by decide +kernel
theorem d_Lm_isWishNumber_16 : decode c_Lm_isWishNumber 16 = .ok (.iconst 1, 1) := by decide +kernel
theorem d_Lm_isWishNumber_17 : decode c_Lm_isWishNumber 17 = .ok (.goto 4, 3) := by decide +kernel
theorem d_Lm_isWishNumber_20 : decode c_Lm_isWishNumber 20 = .ok (.iconst 0, 1) := by decide +kernel
theorem d_Lm_isWishNumber_21 : decode c_Lm_isWishNumber 21 = .ok (.ireturn, 1) := by decide +kernel
set_option maxRecDepth 20000 in
theorem w_Lm_isWishNumber_0 {X : HX} {ad : Nat → Nat} {I : HI} {J : HJ} {N : HN} {r : Int32} {p0 : Int64} (C : Cx X c_Lm_isWishNumber RX10 2 (some .boolean) rm_Lm_isWishNumber)
    (h : Lm_isWishNumber_0 p0 = some r) : G Tc X ad nC 0 0 I J N (gE X Tc ad nC (I, J, N, fun _ => some (.int r))) 0 2 [(0, .long p0)] [] := by
  refine g_lload_n (pc := 0) C d_Lm_isWishNumber_0 rfl 0 rfl ?_
  refine g_ldc2 (pc := 1) C kc_Lm_312 d_Lm_isWishNumber_1 ?_
  refine g_lcmp_lt (pc := 4) C 20 d_Lm_isWishNumber_4 d_Lm_isWishNumber_5 rfl (fun e1 => ?_) (fun e1 => ?_)
  · have h := o_pos e1 h
    refine g_iconst (pc := 20) C (0 : Int32) d_Lm_isWishNumber_20 (by decide) ?_
    obtain rfl := o_ret h
    exact g_zret (pc := 21) C zn_0 d_Lm_isWishNumber_21
  · have h := o_neg e1 h
    refine g_lload_n (pc := 8) C d_Lm_isWishNumber_8 rfl 0 rfl ?_
    refine g_ldc2 (pc := 9) C kc_Lm_314 d_Lm_isWishNumber_9 ?_
    refine g_lcmp_gt (pc := 12) C 20 d_Lm_isWishNumber_12 d_Lm_isWishNumber_13 rfl (fun e2 => ?_) (fun e2 => ?_)
    · have h := o_pos e2 h
      refine g_iconst (pc := 20) C (0 : Int32) d_Lm_isWishNumber_20 (by decide) ?_
      obtain rfl := o_ret h
      exact g_zret (pc := 21) C zn_0 d_Lm_isWishNumber_21
    · have h := o_neg e2 h
      refine g_iconst (pc := 16) C (1 : Int32) d_Lm_isWishNumber_16 (by decide) ?_
      refine g_goto (pc := 17) C 21 d_Lm_isWishNumber_17 rfl ?_
      obtain rfl := o_ret h
      exact g_zret (pc := 21) C zn_1 d_Lm_isWishNumber_21
set_option maxRecDepth 20000 in
theorem k_Lm_isWishNumber (l : Launch) {I : HI} {J : HJ} {N : HN} {p0 : Int64} {r : Int32} (h : Lm_isWishNumber p0 = some r) : gM l y_Lm_isWishNumber c_Lm_isWishNumber 2 (some .boolean) rm_Lm_isWishNumber Tc nC I J N (fun ad => [.long p0]) (I, J, N, fun _ => some (.int r)) :=
  g_meth (lv := fun ad => [(0, .long p0)]) (by decide) (fun _ => Nat.le_of_ble_eq_true rfl) (fun _ => rfl) (fun X ad C => g_lv [0] rfl (w_Lm_isWishNumber_0 C  h))
theorem d_Lm_tell_0 : decode c_Lm_tell 0 = .ok (.iload_n 1, 1) := by decide +kernel
theorem d_Lm_tell_1 : decode c_Lm_tell 1 = .ok (.invokestatic 69, 3) := by decide +kernel
theorem d_Lm_tell_4 : decode c_Lm_tell 4 = .ok (.ifCond .eq 18, 3) := by decide +kernel
theorem d_Lm_tell_7 : decode c_Lm_tell 7 = .ok (.iload_n 2, 1) := by decide +kernel
theorem d_Lm_tell_8 : decode c_Lm_tell 8 = .ok (.invokestatic 73, 3) := by decide +kernel
theorem d_Lm_tell_11 : decode c_Lm_tell 11 = .ok (.ifCond .eq 11, 3) := by decide +kernel
theorem d_Lm_tell_14 : decode c_Lm_tell 14 = .ok (.iload_n 3, 1) := by decide +kernel
theorem d_Lm_tell_15 : decode c_Lm_tell 15 = .ok (.i2l, 1) := by decide +kernel
theorem d_Lm_tell_16 : decode c_Lm_tell 16 = .ok (.invokestatic 76, 3) := by decide +kernel
theorem d_Lm_tell_19 : decode c_Lm_tell 19 = .ok (.ifCond .ne 6, 3) := by decide +kernel
theorem d_Lm_tell_22 : decode c_Lm_tell 22 = .ok (.ldc 80, 2) := by decide +kernel
theorem d_Lm_tell_24 : decode c_Lm_tell 24 = .ok (.ireturn, 1) := by decide +kernel
theorem d_Lm_tell_25 : decode c_Lm_tell 25 = .ok (.aload_n 0, 1) := by decide +kernel
theorem d_Lm_tell_26 : decode c_Lm_tell 26 = .ok (.getfield 12, 3) := by decide +kernel
theorem d_Lm_tell_29 : decode c_Lm_tell 29 = .ok (.iload_n 1, 1) := by decide +kernel
theorem d_Lm_tell_30 : decode c_Lm_tell 30 = .ok (.invokevirtual 81, 3) := by decide +kernel
theorem d_Lm_tell_33 : decode c_Lm_tell 33 = .ok (.astore 4, 2) := by decide +kernel
theorem d_Lm_tell_35 : decode c_Lm_tell 35 = .ok (.aload 4, 2) := by decide +kernel
theorem d_Lm_tell_37 : decode c_Lm_tell 37 = .ok (.iload_n 2, 1) := by decide +kernel
theorem d_Lm_tell_38 : decode c_Lm_tell 38 = .ok (.invokevirtual 85, 3) := by decide +kernel
theorem d_Lm_tell_41 : decode c_Lm_tell 41 = .ok (.l2i, 1) := by decide +kernel
theorem d_Lm_tell_42 : decode c_Lm_tell 42 = .ok (.istore 5, 2) := by decide +kernel
theorem d_Lm_tell_44 : decode c_Lm_tell 44 = .ok (.aload 4, 2) := by decide +kernel
theorem d_Lm_tell_46 : decode c_Lm_tell 46 = .ok (.iload_n 2, 1) := by decide +kernel
theorem d_Lm_tell_47 : decode c_Lm_tell 47 = .ok (.iload_n 3, 1) := by decide +kernel
theorem d_Lm_tell_48 : decode c_Lm_tell 48 = .ok (.i2l, 1) := by decide +kernel
theorem d_Lm_tell_49 : decode c_Lm_tell 49 = .ok (.invokevirtual 91, 3) := by decide +kernel
theorem d_Lm_tell_52 : decode c_Lm_tell 52 = .ok (.iload 5, 2) := by decide +kernel
theorem d_Lm_tell_54 : decode c_Lm_tell 54 = .ok (.ireturn, 1) := by decide +kernel
set_option maxRecDepth 20000 in
theorem w_Lm_tell_0 {X : HX} {ad : Nat → Nat} {I : HI} {J : HJ} {N : HN} {r : HJ × Int32} {a0 : Nat} {p1 : Int32} {p2 : Int32} {p3 : Int32} (C : Cx X c_Lm_tell RX10 6 (some .int) rm_Lm_tell) (ha0 : gk Tc nC a0 (0, 10))
    (h : Lm_tell_0 N a0 p1 p2 p3 J = some r) : G Tc X ad nC 0 0 I J N (gE X Tc ad nC (I, r.1, N, fun _ => some (.int r.2))) 0 6 [(0, .ref (ad a0)), (1, .int p1), (2, .int p2), (3, .int p3)] [] := by
  refine g_iload_n (pc := 0) C d_Lm_tell_0 rfl 1 rfl ?_
  obtain ⟨r1, hc2, h⟩ := o_bn1 h
  refine g_S (pc := 1) (rest := []) C (k_Lm_isPlace (xl X)  hc2) sm_Lm_isPlace ml_Lm_69 st_Lm_isPlace ⟨rfl, rfl, Nat.le_of_ble_eq_true rfl, Nat.le_of_ble_eq_true rfl⟩ ⟨Nat.zero_le _, Nat.zero_le _⟩ rfl rfl (Nat.le_of_ble_eq_true rfl) d_Lm_tell_1 [.int r1] rfl ?_
  refine g_if_eq (pc := 4) C 22 d_Lm_tell_4 rfl (fun e3 => ?_) (fun e3 => ?_)
  · have h := o_pos e3 h
    refine g_ldc (pc := 22) C kc_Lm_80 d_Lm_tell_22 ?_
    obtain rfl := o_ret h
    exact g_iret (pc := 24) C d_Lm_tell_24
  · have h := o_neg e3 h
    refine g_iload_n (pc := 7) C d_Lm_tell_7 rfl 2 rfl ?_
    obtain ⟨r4, hc5, h⟩ := o_bn1 h
    refine g_S (pc := 8) (rest := []) C (k_Lm_isPower (xl X)  hc5) sm_Lm_isPower ml_Lm_73 st_Lm_isPower ⟨rfl, rfl, Nat.le_of_ble_eq_true rfl, Nat.le_of_ble_eq_true rfl⟩ ⟨Nat.zero_le _, Nat.zero_le _⟩ rfl rfl (Nat.le_of_ble_eq_true rfl) d_Lm_tell_8 [.int r4] rfl ?_
    refine g_if_eq (pc := 11) C 22 d_Lm_tell_11 rfl (fun e6 => ?_) (fun e6 => ?_)
    · have h := o_pos e6 h
      refine g_ldc (pc := 22) C kc_Lm_80 d_Lm_tell_22 ?_
      obtain rfl := o_ret h
      exact g_iret (pc := 24) C d_Lm_tell_24
    · have h := o_neg e6 h
      refine g_iload_n (pc := 14) C d_Lm_tell_14 rfl 3 rfl ?_
      refine g_i2l (pc := 15) C d_Lm_tell_15 ?_
      obtain ⟨r7, hc8, h⟩ := o_bn1 h
      refine g_S (pc := 16) (rest := []) C (k_Lm_isWishNumber (xl X)  hc8) sm_Lm_isWishNumber ml_Lm_76 st_Lm_isWishNumber ⟨rfl, rfl, Nat.le_of_ble_eq_true rfl, Nat.le_of_ble_eq_true rfl⟩ ⟨Nat.zero_le _, Nat.zero_le _⟩ rfl rfl (Nat.le_of_ble_eq_true rfl) d_Lm_tell_16 [.int r7] rfl ?_
      refine g_if_ne (pc := 19) C 25 d_Lm_tell_19 rfl (fun e9 => ?_) (fun e9 => ?_)
      · have h := o_neg e9 h
        refine g_aload_n (pc := 25) C d_Lm_tell_25 rfl 0 rfl ?_
        obtain ⟨b10, hnb10, hb10, h⟩ := o_rq h
        refine g_get (pc := 26) (k := 0) (v := va_rf ((N a0 0).map ad)) C gcX10 inX10 (by decide) fl_Lm_12 ha0 rfl d_Lm_tell_26 ?_
        refine g_top (g_rf hnb10) ?_
        refine g_iload_n (pc := 29) C d_Lm_tell_29 rfl 1 rfl ?_
        obtain ⟨b11, hc12, h⟩ := o_bn1 h
        refine g_V (pc := 30) (rest := []) C (k_Pa_side (xl X) hb10 hc12) sm_Pa_side ml_Lm_81 im_Pa_side se_Pa_side gcX5 rfl hb10 ⟨rfl, rfl, Nat.le_of_ble_eq_true rfl, Nat.le_of_ble_eq_true rfl⟩ ⟨Nat.zero_le _, Nat.zero_le _⟩ rfl rfl (Nat.le_of_ble_eq_true rfl) d_Lm_tell_30 [.ref (ad b11)] rfl ?_
        obtain ⟨hb11, h⟩ := o_gd h
        have hb11 : gk Tc nC b11 (0, 6) := of_decide_eq_true (p := b11 < nC ∧ Tc b11 = (0, 6)) hb11
        refine g_astore (pc := 33) (lv' := [(4, .ref (ad b11)), (0, .ref (ad a0)), (1, .int p1), (2, .int p2), (3, .int p3)]) C d_Lm_tell_33 (by decide) rfl ?_
        refine g_aload (pc := 35) C d_Lm_tell_35 0 rfl ?_
        refine g_iload_n (pc := 37) C d_Lm_tell_37 rfl 3 rfl ?_
        obtain ⟨r13, hc14, h⟩ := o_bn1 h
        refine g_V (pc := 38) (rest := []) C (k_Po_at (xl X) hb11 hc14) sm_Po_at ml_Lm_85 im_Po_at se_Po_at gcX6 rfl hb11 ⟨rfl, rfl, Nat.le_of_ble_eq_true rfl, Nat.le_of_ble_eq_true rfl⟩ ⟨Nat.zero_le _, Nat.zero_le _⟩ rfl rfl (Nat.le_of_ble_eq_true rfl) d_Lm_tell_38 [.long r13] rfl ?_
        refine g_l2i (pc := 41) C d_Lm_tell_41 ?_
        refine g_istore (pc := 42) (lv' := [(5, .int r13.toInt32), (4, .ref (ad b11)), (0, .ref (ad a0)), (1, .int p1), (2, .int p2), (3, .int p3)]) C d_Lm_tell_42 (by decide) rfl ?_
        refine g_aload (pc := 44) C d_Lm_tell_44 1 rfl ?_
        refine g_iload_n (pc := 46) C d_Lm_tell_46 rfl 4 rfl ?_
        refine g_iload_n (pc := 47) C d_Lm_tell_47 rfl 5 rfl ?_
        refine g_i2l (pc := 48) C d_Lm_tell_48 ?_
        obtain ⟨J15, hc16, h⟩ := o_bn1 h
        refine g_V (pc := 49) (rest := []) C (k_Po_put (xl X) hb11 hc16) sm_Po_put ml_Lm_91 im_Po_put se_Po_put gcX6 rfl hb11 ⟨rfl, rfl, Nat.le_of_ble_eq_true rfl, Nat.le_of_ble_eq_true rfl⟩ ⟨Nat.zero_le _, Nat.zero_le _⟩ rfl rfl (Nat.le_of_ble_eq_true rfl) d_Lm_tell_49 [] rfl ?_
        refine g_iload (pc := 52) C d_Lm_tell_52 0 rfl ?_
        obtain rfl := o_ret h
        exact g_iret (pc := 54) C d_Lm_tell_54
      · have h := o_pos e9 h
        refine g_ldc (pc := 22) C kc_Lm_80 d_Lm_tell_22 ?_
        obtain rfl := o_ret h
        exact g_iret (pc := 24) C d_Lm_tell_24
set_option maxRecDepth 20000 in
theorem k_Lm_tell (l : Launch) {I : HI} {J : HJ} {N : HN} {a0 : Nat} {p1 : Int32} {p2 : Int32} {p3 : Int32} {r : HJ × Int32} (ha0 : gk Tc nC a0 (0, 10)) (h : Lm_tell N a0 p1 p2 p3 J = some r) : gM l y_Lm_tell c_Lm_tell 6 (some .int) rm_Lm_tell Tc nC I J N (fun ad => [.ref (ad a0), .int p1, .int p2, .int p3]) (I, r.1, N, fun _ => some (.int r.2)) :=
  g_meth (lv := fun ad => [(0, .ref (ad a0)), (1, .int p1), (2, .int p2), (3, .int p3)]) (by decide) (fun _ => Nat.le_of_ble_eq_true rfl) (fun _ => rfl) (fun X ad C => g_lv [0, 1, 2, 3] rfl (w_Lm_tell_0 C ha0 h))
theorem d_Lm_told_0 : decode c_Lm_told 0 = .ok (.iload_n 1, 1) := by decide +kernel
theorem d_Lm_told_1 : decode c_Lm_told 1 = .ok (.invokestatic 69, 3) := by decide +kernel
theorem d_Lm_told_4 : decode c_Lm_told 4 = .ok (.ifCond .eq 10, 3) := by decide +kernel
theorem d_Lm_told_7 : decode c_Lm_told 7 = .ok (.iload_n 2, 1) := by decide +kernel
theorem d_Lm_told_8 : decode c_Lm_told 8 = .ok (.invokestatic 73, 3) := by decide +kernel
theorem d_Lm_told_11 : decode c_Lm_told 11 = .ok (.ifCond .ne 6, 3) := by decide +kernel
theorem d_Lm_told_14 : decode c_Lm_told 14 = .ok (.ldc 80, 2) := by decide +kernel
theorem d_Lm_told_16 : decode c_Lm_told 16 = .ok (.ireturn, 1) := by decide +kernel
theorem d_Lm_told_17 : decode c_Lm_told 17 = .ok (.aload_n 0, 1) := by decide +kernel
theorem d_Lm_told_18 : decode c_Lm_told 18 = .ok (.getfield 12, 3) := by decide +kernel
theorem d_Lm_told_21 : decode c_Lm_told 21 = .ok (.iload_n 1, 1) := by decide +kernel
theorem d_Lm_told_22 : decode c_Lm_told 22 = .ok (.invokevirtual 81, 3) := by decide +kernel
theorem d_Lm_told_25 : decode c_Lm_told 25 = .ok (.iload_n 2, 1) := by decide +kernel
theorem d_Lm_told_26 : decode c_Lm_told 26 = .ok (.invokevirtual 85, 3) := by decide +kernel
theorem d_Lm_told_29 : decode c_Lm_told 29 = .ok (.l2i, 1) := by decide +kernel
theorem d_Lm_told_30 : decode c_Lm_told 30 = .ok (.ireturn, 1) := by decide +kernel
set_option maxRecDepth 20000 in
theorem w_Lm_told_0 {X : HX} {ad : Nat → Nat} {I : HI} {J : HJ} {N : HN} {r : Int32} {a0 : Nat} {p1 : Int32} {p2 : Int32} (C : Cx X c_Lm_told RX10 3 (some .int) rm_Lm_told) (ha0 : gk Tc nC a0 (0, 10))
    (h : Lm_told_0 J N a0 p1 p2 = some r) : G Tc X ad nC 0 0 I J N (gE X Tc ad nC (I, J, N, fun _ => some (.int r))) 0 3 [(0, .ref (ad a0)), (1, .int p1), (2, .int p2)] [] := by
  refine g_iload_n (pc := 0) C d_Lm_told_0 rfl 1 rfl ?_
  obtain ⟨r1, hc2, h⟩ := o_bn1 h
  refine g_S (pc := 1) (rest := []) C (k_Lm_isPlace (xl X)  hc2) sm_Lm_isPlace ml_Lm_69 st_Lm_isPlace ⟨rfl, rfl, Nat.le_of_ble_eq_true rfl, Nat.le_of_ble_eq_true rfl⟩ ⟨Nat.zero_le _, Nat.zero_le _⟩ rfl rfl (Nat.le_of_ble_eq_true rfl) d_Lm_told_1 [.int r1] rfl ?_
  refine g_if_eq (pc := 4) C 14 d_Lm_told_4 rfl (fun e3 => ?_) (fun e3 => ?_)
  · have h := o_pos e3 h
    refine g_ldc (pc := 14) C kc_Lm_80 d_Lm_told_14 ?_
    obtain rfl := o_ret h
    exact g_iret (pc := 16) C d_Lm_told_16
  · have h := o_neg e3 h
    refine g_iload_n (pc := 7) C d_Lm_told_7 rfl 2 rfl ?_
    obtain ⟨r4, hc5, h⟩ := o_bn1 h
    refine g_S (pc := 8) (rest := []) C (k_Lm_isPower (xl X)  hc5) sm_Lm_isPower ml_Lm_73 st_Lm_isPower ⟨rfl, rfl, Nat.le_of_ble_eq_true rfl, Nat.le_of_ble_eq_true rfl⟩ ⟨Nat.zero_le _, Nat.zero_le _⟩ rfl rfl (Nat.le_of_ble_eq_true rfl) d_Lm_told_8 [.int r4] rfl ?_
    refine g_if_ne (pc := 11) C 17 d_Lm_told_11 rfl (fun e6 => ?_) (fun e6 => ?_)
    · have h := o_neg e6 h
      refine g_aload_n (pc := 17) C d_Lm_told_17 rfl 0 rfl ?_
      obtain ⟨b7, hnb7, hb7, h⟩ := o_rq h
      refine g_get (pc := 18) (k := 0) (v := va_rf ((N a0 0).map ad)) C gcX10 inX10 (by decide) fl_Lm_12 ha0 rfl d_Lm_told_18 ?_
      refine g_top (g_rf hnb7) ?_
      refine g_iload_n (pc := 21) C d_Lm_told_21 rfl 1 rfl ?_
      obtain ⟨b8, hc9, h⟩ := o_bn1 h
      refine g_V (pc := 22) (rest := []) C (k_Pa_side (xl X) hb7 hc9) sm_Pa_side ml_Lm_81 im_Pa_side se_Pa_side gcX5 rfl hb7 ⟨rfl, rfl, Nat.le_of_ble_eq_true rfl, Nat.le_of_ble_eq_true rfl⟩ ⟨Nat.zero_le _, Nat.zero_le _⟩ rfl rfl (Nat.le_of_ble_eq_true rfl) d_Lm_told_22 [.ref (ad b8)] rfl ?_
      obtain ⟨hb8, h⟩ := o_gd h
      have hb8 : gk Tc nC b8 (0, 6) := of_decide_eq_true (p := b8 < nC ∧ Tc b8 = (0, 6)) hb8
      refine g_iload_n (pc := 25) C d_Lm_told_25 rfl 2 rfl ?_
      obtain ⟨r10, hc11, h⟩ := o_bn1 h
      refine g_V (pc := 26) (rest := []) C (k_Po_at (xl X) hb8 hc11) sm_Po_at ml_Lm_85 im_Po_at se_Po_at gcX6 rfl hb8 ⟨rfl, rfl, Nat.le_of_ble_eq_true rfl, Nat.le_of_ble_eq_true rfl⟩ ⟨Nat.zero_le _, Nat.zero_le _⟩ rfl rfl (Nat.le_of_ble_eq_true rfl) d_Lm_told_26 [.long r10] rfl ?_
      refine g_l2i (pc := 29) C d_Lm_told_29 ?_
      obtain rfl := o_ret h
      exact g_iret (pc := 30) C d_Lm_told_30
    · have h := o_pos e6 h
      refine g_ldc (pc := 14) C kc_Lm_80 d_Lm_told_14 ?_
      obtain rfl := o_ret h
      exact g_iret (pc := 16) C d_Lm_told_16
set_option maxRecDepth 20000 in
theorem k_Lm_told (l : Launch) {I : HI} {J : HJ} {N : HN} {a0 : Nat} {p1 : Int32} {p2 : Int32} {r : Int32} (ha0 : gk Tc nC a0 (0, 10)) (h : Lm_told J N a0 p1 p2 = some r) : gM l y_Lm_told c_Lm_told 3 (some .int) rm_Lm_told Tc nC I J N (fun ad => [.ref (ad a0), .int p1, .int p2]) (I, J, N, fun _ => some (.int r)) :=
  g_meth (lv := fun ad => [(0, .ref (ad a0)), (1, .int p1), (2, .int p2)]) (by decide) (fun _ => Nat.le_of_ble_eq_true rfl) (fun _ => rfl) (fun X ad C => g_lv [0, 1, 2] rfl (w_Lm_told_0 C ha0 h))
