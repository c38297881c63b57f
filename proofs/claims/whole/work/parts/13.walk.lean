theorem d_Lm_turn_0 : decode c_Lm_turn 0 = .ok (.aload_n 0, 1) := by decide +kernel
theorem d_Lm_turn_1 : decode c_Lm_turn 1 = .ok (.getfield 12, 3) := by decide +kernel
theorem d_Lm_turn_4 : decode c_Lm_turn 4 = .ok (.invokevirtual 95, 3) := by decide +kernel
theorem d_Lm_turn_7 : decode c_Lm_turn 7 = .ok (.aload_n 0, 1) := by decide +kernel
theorem d_Lm_turn_8 : decode c_Lm_turn 8 = .ok (.getfield 12, 3) := by decide +kernel
theorem d_Lm_turn_11 : decode c_Lm_turn 11 = .ok (.invokevirtual 98, 3) := by decide +kernel
theorem d_Lm_turn_14 : decode c_Lm_turn 14 = .ok (.ifCond .eq 7, 3) := by decide +kernel
theorem d_Lm_turn_17 : decode c_Lm_turn 17 = .ok (.iconst 1, 1) := by decide +kernel
theorem d_Lm_turn_18 : decode c_Lm_turn 18 = .ok (.goto 4, 3) := by decide +kernel
theorem d_Lm_turn_21 : decode c_Lm_turn 21 = .ok (.iconst 0, 1) := by decide +kernel
theorem d_Lm_turn_22 : decode c_Lm_turn 22 = .ok (.ireturn, 1) := by decide +kernel
set_option maxRecDepth 20000 in
theorem w_Lm_turn_0 {X : HX} {ad : Nat → Nat} {I : HI} {J : HJ} {N : HN} {r : HN × Int32} {a0 : Nat} (C : Cx X c_Lm_turn RX10 1 (some .int) rm_Lm_turn) (ha0 : gk Tc nC a0 (0, 10))
    (h : Lm_turn_0 J a0 N = some r) : G Tc X ad nC 0 0 I J N (gE X Tc ad nC (I, J, r.1, fun _ => some (.int r.2))) 0 1 [(0, .ref (ad a0))] [] := by
  refine g_aload_n (pc := 0) C d_Lm_turn_0 rfl 0 rfl ?_
  obtain ⟨b1, hnb1, hb1, h⟩ := o_rq h
  refine g_get (pc := 1) (k := 0) (v := va_rf ((N a0 0).map ad)) C gcX10 inX10 (by decide) fl_Lm_12 ha0 rfl d_Lm_turn_1 ?_
  refine g_top (g_rf hnb1) ?_
  obtain ⟨N2, hc3, h⟩ := o_bn1 h
  refine g_V (pc := 4) (rest := []) C (k_Pa_swap (xl X) hb1 hc3) sm_Pa_swap ml_Lm_95 im_Pa_swap se_Pa_swap gcX5 rfl hb1 ⟨rfl, rfl, Nat.le_of_ble_eq_true rfl, Nat.le_of_ble_eq_true rfl⟩ ⟨Nat.zero_le _, Nat.zero_le _⟩ rfl rfl (Nat.le_of_ble_eq_true rfl) d_Lm_turn_4 [] rfl ?_
  refine g_aload_n (pc := 7) C d_Lm_turn_7 rfl 0 rfl ?_
  obtain ⟨b4, hnb4, hb4, h⟩ := o_rq h
  refine g_get (pc := 8) (k := 0) (v := va_rf ((N2 a0 0).map ad)) C gcX10 inX10 (by decide) fl_Lm_12 ha0 rfl d_Lm_turn_8 ?_
  refine g_top (g_rf hnb4) ?_
  obtain ⟨r5, hc6, h⟩ := o_bn1 h
  refine g_V (pc := 11) (rest := []) C (k_Pa_isLawful (xl X) hb4 hc6) sm_Pa_isLawful ml_Lm_98 im_Pa_isLawful se_Pa_isLawful gcX5 rfl hb4 ⟨rfl, rfl, Nat.le_of_ble_eq_true rfl, Nat.le_of_ble_eq_true rfl⟩ ⟨Nat.zero_le _, Nat.zero_le _⟩ rfl rfl (Nat.le_of_ble_eq_true rfl) d_Lm_turn_11 [.int r5] rfl ?_
  refine g_if_eq (pc := 14) C 21 d_Lm_turn_14 rfl (fun e7 => ?_) (fun e7 => ?_)
  · have h := o_pos e7 h
    refine g_iconst (pc := 21) C (0 : Int32) d_Lm_turn_21 (by decide) ?_
    obtain rfl := o_ret h
    exact g_iret (pc := 22) C d_Lm_turn_22
  · have h := o_neg e7 h
    refine g_iconst (pc := 17) C (1 : Int32) d_Lm_turn_17 (by decide) ?_
    refine g_goto (pc := 18) C 22 d_Lm_turn_18 rfl ?_
    obtain rfl := o_ret h
    exact g_iret (pc := 22) C d_Lm_turn_22
set_option maxRecDepth 20000 in
theorem k_Lm_turn (l : Launch) {I : HI} {J : HJ} {N : HN} {a0 : Nat} {r : HN × Int32} (ha0 : gk Tc nC a0 (0, 10)) (h : Lm_turn J a0 N = some r) : gM l y_Lm_turn c_Lm_turn 1 (some .int) rm_Lm_turn Tc nC I J N (fun ad => [.ref (ad a0)]) (I, J, r.1, fun _ => some (.int r.2)) :=
  g_meth (lv := fun ad => [(0, .ref (ad a0))]) (by decide) (fun _ => Nat.le_of_ble_eq_true rfl) (fun _ => rfl) (fun X ad C => g_lv [0] rfl (w_Lm_turn_0 C ha0 h))
theorem d_Lm_reverse_0 : decode c_Lm_reverse 0 = .ok (.aload_n 0, 1) := by decide +kernel
theorem d_Lm_reverse_1 : decode c_Lm_reverse 1 = .ok (.getfield 12, 3) := by decide +kernel
theorem d_Lm_reverse_4 : decode c_Lm_reverse 4 = .ok (.invokevirtual 102, 3) := by decide +kernel
theorem d_Lm_reverse_7 : decode c_Lm_reverse 7 = .ok (.istore_n 1, 1) := by decide +kernel
theorem d_Lm_reverse_8 : decode c_Lm_reverse 8 = .ok (.iload_n 1, 1) := by decide +kernel
theorem d_Lm_reverse_9 : decode c_Lm_reverse 9 = .ok (.iconst (-1), 1) := by decide +kernel
theorem d_Lm_reverse_10 : decode c_Lm_reverse 10 = .ok (.if_icmp .ne 6, 3) := by decide +kernel
theorem d_Lm_reverse_13 : decode c_Lm_reverse 13 = .ok (.bipush (-3), 2) := by decide +kernel
theorem d_Lm_reverse_15 : decode c_Lm_reverse 15 = .ok (.ireturn, 1) := by decide +kernel
theorem d_Lm_reverse_16 : decode c_Lm_reverse 16 = .ok (.aload_n 0, 1) := by decide +kernel
theorem d_Lm_reverse_17 : decode c_Lm_reverse 17 = .ok (.getfield 12, 3) := by decide +kernel
theorem d_Lm_reverse_20 : decode c_Lm_reverse 20 = .ok (.iconst 0, 1) := by decide +kernel
theorem d_Lm_reverse_21 : decode c_Lm_reverse 21 = .ok (.invokevirtual 81, 3) := by decide +kernel
theorem d_Lm_reverse_24 : decode c_Lm_reverse 24 = .ok (.iload_n 1, 1) := by decide +kernel
theorem d_Lm_reverse_25 : decode c_Lm_reverse 25 = .ok (.invokevirtual 106, 3) := by decide +kernel
theorem d_Lm_reverse_28 : decode c_Lm_reverse 28 = .ok (.aload_n 0, 1) := by decide +kernel
theorem d_Lm_reverse_29 : decode c_Lm_reverse 29 = .ok (.getfield 12, 3) := by decide +kernel
theorem d_Lm_reverse_32 : decode c_Lm_reverse 32 = .ok (.iconst 1, 1) := by decide +kernel
theorem d_Lm_reverse_33 : decode c_Lm_reverse 33 = .ok (.invokevirtual 81, 3) := by decide +kernel
theorem d_Lm_reverse_36 : decode c_Lm_reverse 36 = .ok (.iload_n 1, 1) := by decide +kernel
theorem d_Lm_reverse_37 : decode c_Lm_reverse 37 = .ok (.invokevirtual 106, 3) := by decide +kernel
theorem d_Lm_reverse_40 : decode c_Lm_reverse 40 = .ok (.iload_n 1, 1) := by decide +kernel
theorem d_Lm_reverse_41 : decode c_Lm_reverse 41 = .ok (.ireturn, 1) := by decide +kernel
set_option maxRecDepth 20000 in
theorem w_Lm_reverse_0 {X : HX} {ad : Nat → Nat} {I : HI} {J : HJ} {N : HN} {r : HJ × Int32} {a0 : Nat} (C : Cx X c_Lm_reverse RX10 2 (some .int) rm_Lm_reverse) (ha0 : gk Tc nC a0 (0, 10))
    (h : Lm_reverse_0 N a0 J = some r) : G Tc X ad nC 0 0 I J N (gE X Tc ad nC (I, r.1, N, fun _ => some (.int r.2))) 0 2 [(0, .ref (ad a0))] [] := by
  refine g_aload_n (pc := 0) C d_Lm_reverse_0 rfl 0 rfl ?_
  obtain ⟨b1, hnb1, hb1, h⟩ := o_rq h
  refine g_get (pc := 1) (k := 0) (v := va_rf ((N a0 0).map ad)) C gcX10 inX10 (by decide) fl_Lm_12 ha0 rfl d_Lm_reverse_1 ?_
  refine g_top (g_rf hnb1) ?_
  obtain ⟨r2, hc3, h⟩ := o_bn1 h
  refine g_V (pc := 4) (rest := []) C (k_Pa_greaterDegree (xl X) hb1 hc3) sm_Pa_greaterDegree ml_Lm_102 im_Pa_greaterDegree se_Pa_greaterDegree gcX5 rfl hb1 ⟨rfl, rfl, Nat.le_of_ble_eq_true rfl, Nat.le_of_ble_eq_true rfl⟩ ⟨Nat.zero_le _, Nat.zero_le _⟩ rfl rfl (Nat.le_of_ble_eq_true rfl) d_Lm_reverse_4 [.int r2] rfl ?_
  refine g_istore_n (pc := 7) (lv' := [(1, .int r2), (0, .ref (ad a0))]) C d_Lm_reverse_7 rfl (by decide) rfl ?_
  refine g_iload_n (pc := 8) C d_Lm_reverse_8 rfl 0 rfl ?_
  refine g_iconst (pc := 9) C (-1 : Int32) d_Lm_reverse_9 (by decide) ?_
  refine g_icmp_ne (pc := 10) C 16 d_Lm_reverse_10 rfl (fun e4 => ?_) (fun e4 => ?_)
  · have h := o_neg e4 h
    refine g_aload_n (pc := 16) C d_Lm_reverse_16 rfl 1 rfl ?_
    obtain ⟨b5, hnb5, hb5, h⟩ := o_rq h
    refine g_get (pc := 17) (k := 0) (v := va_rf ((N a0 0).map ad)) C gcX10 inX10 (by decide) fl_Lm_12 ha0 rfl d_Lm_reverse_17 ?_
    refine g_top (g_rf hnb5) ?_
    refine g_iconst (pc := 20) C (0 : Int32) d_Lm_reverse_20 (by decide) ?_
    obtain ⟨b6, hc7, h⟩ := o_bn1 h
    refine g_V (pc := 21) (rest := []) C (k_Pa_side (xl X) hb5 hc7) sm_Pa_side ml_Lm_81 im_Pa_side se_Pa_side gcX5 rfl hb5 ⟨rfl, rfl, Nat.le_of_ble_eq_true rfl, Nat.le_of_ble_eq_true rfl⟩ ⟨Nat.zero_le _, Nat.zero_le _⟩ rfl rfl (Nat.le_of_ble_eq_true rfl) d_Lm_reverse_21 [.ref (ad b6)] rfl ?_
    obtain ⟨hb6, h⟩ := o_gd h
    have hb6 : gk Tc nC b6 (0, 6) := of_decide_eq_true (p := b6 < nC ∧ Tc b6 = (0, 6)) hb6
    refine g_iload_n (pc := 24) C d_Lm_reverse_24 rfl 0 rfl ?_
    obtain ⟨J8, hc9, h⟩ := o_bn1 h
    refine g_V (pc := 25) (rest := []) C (k_Po_runBackwards (xl X) hb6 hc9) sm_Po_runBackwards ml_Lm_106 im_Po_runBackwards se_Po_runBackwards gcX6 rfl hb6 ⟨rfl, rfl, Nat.le_of_ble_eq_true rfl, Nat.le_of_ble_eq_true rfl⟩ ⟨Nat.zero_le _, Nat.zero_le _⟩ rfl rfl (Nat.le_of_ble_eq_true rfl) d_Lm_reverse_25 [] rfl ?_
    refine g_aload_n (pc := 28) C d_Lm_reverse_28 rfl 1 rfl ?_
    obtain ⟨b10, hnb10, hb10, h⟩ := o_rq h
    refine g_get (pc := 29) (k := 0) (v := va_rf ((N a0 0).map ad)) C gcX10 inX10 (by decide) fl_Lm_12 ha0 rfl d_Lm_reverse_29 ?_
    refine g_top (g_rf hnb10) ?_
    refine g_iconst (pc := 32) C (1 : Int32) d_Lm_reverse_32 (by decide) ?_
    obtain ⟨b11, hc12, h⟩ := o_bn1 h
    refine g_V (pc := 33) (rest := []) C (k_Pa_side (xl X) hb10 hc12) sm_Pa_side ml_Lm_81 im_Pa_side se_Pa_side gcX5 rfl hb10 ⟨rfl, rfl, Nat.le_of_ble_eq_true rfl, Nat.le_of_ble_eq_true rfl⟩ ⟨Nat.zero_le _, Nat.zero_le _⟩ rfl rfl (Nat.le_of_ble_eq_true rfl) d_Lm_reverse_33 [.ref (ad b11)] rfl ?_
    obtain ⟨hb11, h⟩ := o_gd h
    have hb11 : gk Tc nC b11 (0, 6) := of_decide_eq_true (p := b11 < nC ∧ Tc b11 = (0, 6)) hb11
    refine g_iload_n (pc := 36) C d_Lm_reverse_36 rfl 0 rfl ?_
    obtain ⟨J13, hc14, h⟩ := o_bn1 h
    refine g_V (pc := 37) (rest := []) C (k_Po_runBackwards (xl X) hb11 hc14) sm_Po_runBackwards ml_Lm_106 im_Po_runBackwards se_Po_runBackwards gcX6 rfl hb11 ⟨rfl, rfl, Nat.le_of_ble_eq_true rfl, Nat.le_of_ble_eq_true rfl⟩ ⟨Nat.zero_le _, Nat.zero_le _⟩ rfl rfl (Nat.le_of_ble_eq_true rfl) d_Lm_reverse_37 [] rfl ?_
    refine g_iload_n (pc := 40) C d_Lm_reverse_40 rfl 0 rfl ?_
    obtain rfl := o_ret h
    exact g_iret (pc := 41) C d_Lm_reverse_41
  · have h := o_pos e4 h
    refine g_bipush (pc := 13) C (-3 : Int32) d_Lm_reverse_13 (by decide) ?_
    obtain rfl := o_ret h
    exact g_iret (pc := 15) C d_Lm_reverse_15
set_option maxRecDepth 20000 in
theorem k_Lm_reverse (l : Launch) {I : HI} {J : HJ} {N : HN} {a0 : Nat} {r : HJ × Int32} (ha0 : gk Tc nC a0 (0, 10)) (h : Lm_reverse N a0 J = some r) : gM l y_Lm_reverse c_Lm_reverse 2 (some .int) rm_Lm_reverse Tc nC I J N (fun ad => [.ref (ad a0)]) (I, r.1, N, fun _ => some (.int r.2)) :=
  g_meth (lv := fun ad => [(0, .ref (ad a0))]) (by decide) (fun _ => Nat.le_of_ble_eq_true rfl) (fun _ => rfl) (fun X ad C => g_lv [0] rfl (w_Lm_reverse_0 C ha0 h))
theorem d_Lm_finding_0 : decode c_Lm_finding 0 = .ok (.aload_n 0, 1) := by decide +kernel
theorem d_Lm_finding_1 : decode c_Lm_finding 1 = .ok (.iload_n 1, 1) := by decide +kernel
theorem d_Lm_finding_2 : decode c_Lm_finding 2 = .ok (.putfield 65, 3) := by decide +kernel
theorem d_Lm_finding_5 : decode c_Lm_finding 5 = .ok (.bipush (-10), 2) := by decide +kernel
theorem d_Lm_finding_7 : decode c_Lm_finding 7 = .ok (.iload_n 1, 1) := by decide +kernel
theorem d_Lm_finding_8 : decode c_Lm_finding 8 = .ok (.isub, 1) := by decide +kernel
theorem d_Lm_finding_9 : decode c_Lm_finding 9 = .ok (.ireturn, 1) := by decide +kernel
set_option maxRecDepth 20000 in
theorem w_Lm_finding_0 {X : HX} {ad : Nat → Nat} {I : HI} {J : HJ} {N : HN} {r : HI × Int32} {a0 : Nat} {p1 : Int32} (C : Cx X c_Lm_finding RX10 2 (some .int) rm_Lm_finding) (ha0 : gk Tc nC a0 (0, 10))
    (h : Lm_finding_0 a0 p1 I = some r) : G Tc X ad nC 0 0 I J N (gE X Tc ad nC (r.1, J, N, fun _ => some (.int r.2))) 0 2 [(0, .ref (ad a0)), (1, .int p1)] [] := by
  refine g_aload_n (pc := 0) C d_Lm_finding_0 rfl 0 rfl ?_
  refine g_iload_n (pc := 1) C d_Lm_finding_1 rfl 1 rfl ?_
  refine g_put (pc := 2) (I' := up2 I a0 8 p1) (J' := J) (N' := N) (k := 8) C gcX10 inX10 tyX10_ok nmX10 (by decide) fl_Lm_65 rfl ha0 (tyX10_ok 8 (by decide)) rfl rfl (Nat.le_of_ble_eq_true rfl) gs_10_8 (fun b hb => up2_of hb) (fun _ _ => rfl) (fun _ _ => rfl) d_Lm_finding_2 ?_
  obtain ⟨I1, eI1, h⟩ := o_bd h
  rw [← eI1]
  refine g_bipush (pc := 5) C (-10 : Int32) d_Lm_finding_5 (by decide) ?_
  refine g_iload_n (pc := 7) C d_Lm_finding_7 rfl 1 rfl ?_
  refine g_isub (pc := 8) C d_Lm_finding_8 ?_
  obtain rfl := o_ret h
  exact g_iret (pc := 9) C d_Lm_finding_9
set_option maxRecDepth 20000 in
theorem k_Lm_finding (l : Launch) {I : HI} {J : HJ} {N : HN} {a0 : Nat} {p1 : Int32} {r : HI × Int32} (ha0 : gk Tc nC a0 (0, 10)) (h : Lm_finding a0 p1 I = some r) : gM l y_Lm_finding c_Lm_finding 2 (some .int) rm_Lm_finding Tc nC I J N (fun ad => [.ref (ad a0), .int p1]) (r.1, J, N, fun _ => some (.int r.2)) :=
  g_meth (lv := fun ad => [(0, .ref (ad a0)), (1, .int p1)]) (by decide) (fun _ => Nat.le_of_ble_eq_true rfl) (fun _ => rfl) (fun X ad C => g_lv [0, 1] rfl (w_Lm_finding_0 C ha0 h))
theorem d_Lm_sheetRefusal_0 : decode c_Lm_sheetRefusal 0 = .ok (.aload_n 0, 1) := by decide +kernel
theorem d_Lm_sheetRefusal_1 : decode c_Lm_sheetRefusal 1 = .ok (.getfield 54, 3) := by decide +kernel
theorem d_Lm_sheetRefusal_4 : decode c_Lm_sheetRefusal 4 = .ok (.iload_n 1, 1) := by decide +kernel
theorem d_Lm_sheetRefusal_5 : decode c_Lm_sheetRefusal 5 = .ok (.invokevirtual 219, 3) := by decide +kernel
theorem d_Lm_sheetRefusal_8 : decode c_Lm_sheetRefusal 8 = .ok (.ifCond .ne 6, 3) := by decide +kernel
theorem d_Lm_sheetRefusal_11 : decode c_Lm_sheetRefusal 11 = .ok (.bipush (-2), 2) := by decide +kernel
theorem d_Lm_sheetRefusal_13 : decode c_Lm_sheetRefusal 13 = .ok (.ireturn, 1) := by decide +kernel
theorem d_Lm_sheetRefusal_14 : decode c_Lm_sheetRefusal 14 = .ok (.aload_n 0, 1) := by decide +kernel
theorem d_Lm_sheetRefusal_15 : decode c_Lm_sheetRefusal 15 = .ok (.getfield 54, 3) := by decide +kernel
theorem d_Lm_sheetRefusal_18 : decode c_Lm_sheetRefusal 18 = .ok (.iload_n 1, 1) := by decide +kernel
theorem d_Lm_sheetRefusal_19 : decode c_Lm_sheetRefusal 19 = .ok (.invokevirtual 238, 3) := by decide +kernel
theorem d_Lm_sheetRefusal_22 : decode c_Lm_sheetRefusal 22 = .ok (.ifCond .eq 11, 3) := by decide +kernel
theorem d_Lm_sheetRefusal_25 : decode c_Lm_sheetRefusal 25 = .ok (.aload_n 0, 1) := by decide +kernel
theorem d_Lm_sheetRefusal_26 : decode c_Lm_sheetRefusal 26 = .ok (.iconst 1, 1) := by decide +kernel
theorem d_Lm_sheetRefusal_27 : decode c_Lm_sheetRefusal 27 = .ok (.invokevirtual 118, 3) := by decide +kernel
theorem d_Lm_sheetRefusal_30 : decode c_Lm_sheetRefusal 30 = .ok (.goto 4, 3) := by decide +kernel
theorem d_Lm_sheetRefusal_33 : decode c_Lm_sheetRefusal 33 = .ok (.iconst 0, 1) := by decide +kernel
theorem d_Lm_sheetRefusal_34 : decode c_Lm_sheetRefusal 34 = .ok (.ireturn, 1) := by decide +kernel
set_option maxRecDepth 20000 in
theorem w_Lm_sheetRefusal_0 {X : HX} {ad : Nat → Nat} {I : HI} {J : HJ} {N : HN} {r : HI × Int32} {a0 : Nat} {p1 : Int32} (C : Cx X c_Lm_sheetRefusal RX10 2 (some .int) rm_Lm_sheetRefusal) (ha0 : gk Tc nC a0 (0, 10))
    (h : Lm_sheetRefusal_0 N a0 p1 I = some r) : G Tc X ad nC 0 0 I J N (gE X Tc ad nC (r.1, J, N, fun _ => some (.int r.2))) 0 2 [(0, .ref (ad a0)), (1, .int p1)] [] := by
  refine g_aload_n (pc := 0) C d_Lm_sheetRefusal_0 rfl 0 rfl ?_
  obtain ⟨b1, hnb1, hb1, h⟩ := o_rq h
  refine g_get (pc := 1) (k := 6) (v := va_rf ((N a0 6).map ad)) C gcX10 inX10 (by decide) fl_Lm_54 ha0 rfl d_Lm_sheetRefusal_1 ?_
  refine g_top (g_rf hnb1) ?_
  refine g_iload_n (pc := 4) C d_Lm_sheetRefusal_4 rfl 1 rfl ?_
  obtain ⟨r2, hc3, h⟩ := o_bn1 h
  refine g_V (pc := 5) (rest := []) C (k_Sh_isSheet (xl X) hb1 hc3) sm_Sh_isSheet ml_Lm_219 im_Sh_isSheet se_Sh_isSheet gcX8 rfl hb1 ⟨rfl, rfl, Nat.le_of_ble_eq_true rfl, Nat.le_of_ble_eq_true rfl⟩ ⟨Nat.zero_le _, Nat.zero_le _⟩ rfl rfl (Nat.le_of_ble_eq_true rfl) d_Lm_sheetRefusal_5 [.int r2] rfl ?_
  refine g_if_ne (pc := 8) C 14 d_Lm_sheetRefusal_8 rfl (fun e4 => ?_) (fun e4 => ?_)
  · have h := o_neg e4 h
    refine g_aload_n (pc := 14) C d_Lm_sheetRefusal_14 rfl 0 rfl ?_
    obtain ⟨b5, hnb5, hb5, h⟩ := o_rq h
    refine g_get (pc := 15) (k := 6) (v := va_rf ((N a0 6).map ad)) C gcX10 inX10 (by decide) fl_Lm_54 ha0 rfl d_Lm_sheetRefusal_15 ?_
    refine g_top (g_rf hnb5) ?_
    refine g_iload_n (pc := 18) C d_Lm_sheetRefusal_18 rfl 1 rfl ?_
    obtain ⟨r6, hc7, h⟩ := o_bn1 h
    refine g_V (pc := 19) (rest := []) C (k_Sh_isLost (xl X) hb5 hc7) sm_Sh_isLost ml_Lm_238 im_Sh_isLost se_Sh_isLost gcX8 rfl hb5 ⟨rfl, rfl, Nat.le_of_ble_eq_true rfl, Nat.le_of_ble_eq_true rfl⟩ ⟨Nat.zero_le _, Nat.zero_le _⟩ rfl rfl (Nat.le_of_ble_eq_true rfl) d_Lm_sheetRefusal_19 [.int r6] rfl ?_
    refine g_if_eq (pc := 22) C 33 d_Lm_sheetRefusal_22 rfl (fun e8 => ?_) (fun e8 => ?_)
    · have h := o_pos e8 h
      refine g_iconst (pc := 33) C (0 : Int32) d_Lm_sheetRefusal_33 (by decide) ?_
      obtain rfl := o_ret h
      exact g_iret (pc := 34) C d_Lm_sheetRefusal_34
    · have h := o_neg e8 h
      refine g_aload_n (pc := 25) C d_Lm_sheetRefusal_25 rfl 0 rfl ?_
      refine g_iconst (pc := 26) C (1 : Int32) d_Lm_sheetRefusal_26 (by decide) ?_
      obtain ⟨I9, r10, hc11, h⟩ := o_bn2 h
      refine g_V (pc := 27) (rest := []) C (k_Lm_finding (xl X) ha0 hc11) sm_Lm_finding ml_Lm_118 im_Lm_finding se_Lm_finding gcX10 rfl ha0 ⟨rfl, rfl, Nat.le_of_ble_eq_true rfl, Nat.le_of_ble_eq_true rfl⟩ ⟨Nat.zero_le _, Nat.zero_le _⟩ rfl rfl (Nat.le_of_ble_eq_true rfl) d_Lm_sheetRefusal_27 [.int r10] rfl ?_
      refine g_goto (pc := 30) C 34 d_Lm_sheetRefusal_30 rfl ?_
      obtain rfl := o_ret h
      exact g_iret (pc := 34) C d_Lm_sheetRefusal_34
  · have h := o_pos e4 h
    refine g_bipush (pc := 11) C (-2 : Int32) d_Lm_sheetRefusal_11 (by decide) ?_
    obtain rfl := o_ret h
    exact g_iret (pc := 13) C d_Lm_sheetRefusal_13
set_option maxRecDepth 20000 in
theorem k_Lm_sheetRefusal (l : Launch) {I : HI} {J : HJ} {N : HN} {a0 : Nat} {p1 : Int32} {r : HI × Int32} (ha0 : gk Tc nC a0 (0, 10)) (h : Lm_sheetRefusal N a0 p1 I = some r) : gM l y_Lm_sheetRefusal c_Lm_sheetRefusal 2 (some .int) rm_Lm_sheetRefusal Tc nC I J N (fun ad => [.ref (ad a0), .int p1]) (r.1, J, N, fun _ => some (.int r.2)) :=
  g_meth (lv := fun ad => [(0, .ref (ad a0)), (1, .int p1)]) (by decide) (fun _ => Nat.le_of_ble_eq_true rfl) (fun _ => rfl) (fun X ad C => g_lv [0, 1] rfl (w_Lm_sheetRefusal_0 C ha0 h))
theorem d_Lm_read_0 : decode c_Lm_read 0 = .ok (.aload_n 0, 1) := by decide +kernel
theorem d_Lm_read_1 : decode c_Lm_read 1 = .ok (.iload_n 1, 1) := by decide +kernel
theorem d_Lm_read_2 : decode c_Lm_read 2 = .ok (.invokevirtual 110, 3) := by decide +kernel
theorem d_Lm_read_5 : decode c_Lm_read 5 = .ok (.istore_n 3, 1) := by decide +kernel
theorem d_Lm_read_6 : decode c_Lm_read 6 = .ok (.iload_n 3, 1) := by decide +kernel
theorem d_Lm_read_7 : decode c_Lm_read 7 = .ok (.ifCond .eq 5, 3) := by decide +kernel
theorem d_Lm_read_10 : decode c_Lm_read 10 = .ok (.iload_n 3, 1) := by decide +kernel
theorem d_Lm_read_11 : decode c_Lm_read 11 = .ok (.ireturn, 1) := by decide +kernel
theorem d_Lm_read_12 : decode c_Lm_read 12 = .ok (.aload_n 0, 1) := by decide +kernel
theorem d_Lm_read_13 : decode c_Lm_read 13 = .ok (.getfield 54, 3) := by decide +kernel
theorem d_Lm_read_16 : decode c_Lm_read 16 = .ok (.iload_n 1, 1) := by decide +kernel
theorem d_Lm_read_17 : decode c_Lm_read 17 = .ok (.iload_n 2, 1) := by decide +kernel
theorem d_Lm_read_18 : decode c_Lm_read 18 = .ok (.bipush 14, 2) := by decide +kernel
theorem d_Lm_read_20 : decode c_Lm_read 20 = .ok (.invokevirtual 114, 3) := by decide +kernel
theorem d_Lm_read_23 : decode c_Lm_read 23 = .ok (.ifCond .ne 9, 3) := by decide +kernel
theorem d_Lm_read_26 : decode c_Lm_read 26 = .ok (.aload_n 0, 1) := by decide +kernel
theorem d_Lm_read_27 : decode c_Lm_read 27 = .ok (.iconst 2, 1) := by decide +kernel
theorem d_Lm_read_28 : decode c_Lm_read 28 = .ok (.invokevirtual 118, 3) := by decide +kernel
theorem d_Lm_read_31 : decode c_Lm_read 31 = .ok (.ireturn, 1) := by decide +kernel
theorem d_Lm_read_32 : decode c_Lm_read 32 = .ok (.iconst 0, 1) := by decide +kernel
theorem d_Lm_read_33 : decode c_Lm_read 33 = .ok (.istore 4, 2) := by decide +kernel
theorem d_Lm_read_35 : decode c_Lm_read 35 = .ok (.iload 4, 2) := by decide +kernel
theorem d_Lm_read_37 : decode c_Lm_read 37 = .ok (.bipush 14, 2) := by decide +kernel
theorem d_Lm_read_39 : decode c_Lm_read 39 = .ok (.if_icmp .ge 30, 3) := by decide +kernel
theorem d_Lm_read_42 : decode c_Lm_read 42 = .ok (.aload_n 0, 1) := by decide +kernel
theorem d_Lm_read_43 : decode c_Lm_read 43 = .ok (.getfield 54, 3) := by decide +kernel
theorem d_Lm_read_46 : decode c_Lm_read 46 = .ok (.iload_n 1, 1) := by decide +kernel
theorem d_Lm_read_47 : decode c_Lm_read 47 = .ok (.iload_n 2, 1) := by decide +kernel
theorem d_Lm_read_48 : decode c_Lm_read 48 = .ok (.iload 4, 2) := by decide +kernel
theorem d_Lm_read_50 : decode c_Lm_read 50 = .ok (.iadd, 1) := by decide +kernel
theorem d_Lm_read_51 : decode c_Lm_read 51 = .ok (.invokevirtual 121, 3) := by decide +kernel
theorem d_Lm_read_54 : decode c_Lm_read 54 = .ok (.invokestatic 76, 3) := by decide +kernel
theorem d_Lm_read_57 : decode c_Lm_read 57 = .ok (.ifCond .ne 6, 3) := by decide +kernel
theorem d_Lm_read_60 : decode c_Lm_read 60 = .ok (.bipush (-2), 2) := by decide +kernel
theorem d_Lm_read_62 : decode c_Lm_read 62 = .ok (.ireturn, 1) := by decide +kernel
theorem d_Lm_read_63 : decode c_Lm_read 63 = .ok (.iinc 4 1, 3) := by decide +kernel
theorem d_Lm_read_66 : decode c_Lm_read 66 = .ok (.goto (-31), 3) := by decide +kernel
theorem d_Lm_read_69 : decode c_Lm_read 69 = .ok (.iconst 0, 1) := by decide +kernel
theorem d_Lm_read_70 : decode c_Lm_read 70 = .ok (.istore 4, 2) := by decide +kernel
theorem d_Lm_read_72 : decode c_Lm_read 72 = .ok (.iload 4, 2) := by decide +kernel
theorem d_Lm_read_74 : decode c_Lm_read 74 = .ok (.bipush 14, 2) := by decide +kernel
theorem d_Lm_read_76 : decode c_Lm_read 76 = .ok (.if_icmp .ge 30, 3) := by decide +kernel
theorem d_Lm_read_79 : decode c_Lm_read 79 = .ok (.aload_n 0, 1) := by decide +kernel
theorem d_Lm_read_80 : decode c_Lm_read 80 = .ok (.getfield 12, 3) := by decide +kernel
theorem d_Lm_read_83 : decode c_Lm_read 83 = .ok (.iload 4, 2) := by decide +kernel
theorem d_Lm_read_85 : decode c_Lm_read 85 = .ok (.aload_n 0, 1) := by decide +kernel
theorem d_Lm_read_86 : decode c_Lm_read 86 = .ok (.getfield 54, 3) := by decide +kernel
theorem d_Lm_read_89 : decode c_Lm_read 89 = .ok (.iload_n 1, 1) := by decide +kernel
theorem d_Lm_read_90 : decode c_Lm_read 90 = .ok (.iload_n 2, 1) := by decide +kernel
theorem d_Lm_read_91 : decode c_Lm_read 91 = .ok (.iload 4, 2) := by decide +kernel
theorem d_Lm_read_93 : decode c_Lm_read 93 = .ok (.iadd, 1) := by decide +kernel
theorem d_Lm_read_94 : decode c_Lm_read 94 = .ok (.invokevirtual 121, 3) := by decide +kernel
theorem d_Lm_read_97 : decode c_Lm_read 97 = .ok (.invokevirtual 125, 3) := by decide +kernel
theorem d_Lm_read_100 : decode c_Lm_read 100 = .ok (.iinc 4 1, 3) := by decide +kernel
theorem d_Lm_read_103 : decode c_Lm_read 103 = .ok (.goto (-31), 3) := by decide +kernel
theorem d_Lm_read_106 : decode c_Lm_read 106 = .ok (.bipush 14, 2) := by decide +kernel
theorem d_Lm_read_108 : decode c_Lm_read 108 = .ok (.ireturn, 1) := by decide +kernel
set_option maxRecDepth 20000 in
theorem w_Lm_read_72b {X : HX} {ad : Nat → Nat} {I : HI} {J : HJ} {N : HN} {r : HI × HJ × Int32} {k72 : HI → HJ → Int32 → Option (HI × HJ × Int32)} {a0 : Nat} {p1 : Int32} {p2 : Int32} {x4 : Int32} (C : Cx X c_Lm_read RX10 5 (some .int) rm_Lm_read) (ha0 : gk Tc nC a0 (0, 10))
    (hk72 : ∀ (I : HI) (J : HJ) (x4 : Int32), k72 I J x4 = some r → G Tc X ad nC 0 0 I J N (gE X Tc ad nC (r.1, r.2.1, N, fun _ => some (.int r.2.2))) 72 5 [(0, .ref (ad a0)), (1, .int p1), (2, .int p2), (4, .int x4)] [])
    (h : Lm_read_72b N a0 p1 p2 k72 I J x4 = some r) : G Tc X ad nC 0 0 I J N (gE X Tc ad nC (r.1, r.2.1, N, fun _ => some (.int r.2.2))) 72 5 [(0, .ref (ad a0)), (1, .int p1), (2, .int p2), (4, .int x4)] [] := by
  refine g_iload (pc := 72) C d_Lm_read_72 3 rfl ?_
  refine g_bipush (pc := 74) C (14 : Int32) d_Lm_read_74 (by decide) ?_
  refine g_icmp_ge (pc := 76) C 106 d_Lm_read_76 rfl (fun e1 => ?_) (fun e1 => ?_)
  · have h := o_pos e1 h
    refine g_bipush (pc := 106) C (14 : Int32) d_Lm_read_106 (by decide) ?_
    obtain rfl := o_ret h
    exact g_iret (pc := 108) C d_Lm_read_108
  · have h := o_neg e1 h
    refine g_aload_n (pc := 79) C d_Lm_read_79 rfl 0 rfl ?_
    obtain ⟨b2, hnb2, hb2, h⟩ := o_rq h
    refine g_get (pc := 80) (k := 0) (v := va_rf ((N a0 0).map ad)) C gcX10 inX10 (by decide) fl_Lm_12 ha0 rfl d_Lm_read_80 ?_
    refine g_top (g_rf hnb2) ?_
    refine g_iload (pc := 83) C d_Lm_read_83 3 rfl ?_
    refine g_aload_n (pc := 85) C d_Lm_read_85 rfl 0 rfl ?_
    obtain ⟨b3, hnb3, hb3, h⟩ := o_rq h
    refine g_get (pc := 86) (k := 6) (v := va_rf ((N a0 6).map ad)) C gcX10 inX10 (by decide) fl_Lm_54 ha0 rfl d_Lm_read_86 ?_
    refine g_top (g_rf hnb3) ?_
    refine g_iload_n (pc := 89) C d_Lm_read_89 rfl 1 rfl ?_
    refine g_iload_n (pc := 90) C d_Lm_read_90 rfl 2 rfl ?_
    refine g_iload (pc := 91) C d_Lm_read_91 3 rfl ?_
    refine g_iadd (pc := 93) C d_Lm_read_93 ?_
    obtain ⟨r4, hc5, h⟩ := o_bn1 h
    refine g_V (pc := 94) (rest := [.int x4, .ref (ad b2)]) C (k_Sh_item (xl X) hb3 hc5) sm_Sh_item ml_Lm_121 im_Sh_item se_Sh_item gcX8 rfl hb3 ⟨rfl, rfl, Nat.le_of_ble_eq_true rfl, Nat.le_of_ble_eq_true rfl⟩ ⟨Nat.zero_le _, Nat.zero_le _⟩ rfl rfl (Nat.le_of_ble_eq_true rfl) d_Lm_read_94 [.long r4, .int x4, .ref (ad b2)] rfl ?_
    obtain ⟨J6, hc7, h⟩ := o_bn1 h
    refine g_V (pc := 97) (rest := []) C (k_Pa_putNumber (xl X) hb2 hc7) sm_Pa_putNumber ml_Lm_125 im_Pa_putNumber se_Pa_putNumber gcX5 rfl hb2 ⟨rfl, rfl, Nat.le_of_ble_eq_true rfl, Nat.le_of_ble_eq_true rfl⟩ ⟨Nat.zero_le _, Nat.zero_le _⟩ rfl rfl (Nat.le_of_ble_eq_true rfl) d_Lm_read_97 [] rfl ?_
    refine g_iinc (pc := 100) (q := 3) (lv' := [(4, .int (x4 + 1)), (0, .ref (ad a0)), (1, .int p1), (2, .int p2)]) C d_Lm_read_100 rfl rfl (by decide) rfl ?_
    refine g_goto (pc := 103) C 72 d_Lm_read_103 rfl ?_
    refine g_lv [1, 2, 3, 0] rfl ?_
    exact hk72 _ _ _ h
set_option maxRecDepth 20000 in
theorem w_Lm_read_72 {X : HX} {ad : Nat → Nat} {N : HN} {r : HI × HJ × Int32} {a0 : Nat} {p1 : Int32} {p2 : Int32} (C : Cx X c_Lm_read RX10 5 (some .int) rm_Lm_read) (ha0 : gk Tc nC a0 (0, 10)) : ∀ (n : Nat) (I : HI) (J : HJ) (x4 : Int32), Lm_read_72 N a0 p1 p2 n I J x4 = some r → G Tc X ad nC 0 0 I J N (gE X Tc ad nC (r.1, r.2.1, N, fun _ => some (.int r.2.2))) 72 5 [(0, .ref (ad a0)), (1, .int p1), (2, .int p2), (4, .int x4)] [] := by
  intro n
  induction n with
  | zero => intro I J x4 h; cases h
  | succ n ih => intro I J x4 h; exact w_Lm_read_72b C ha0 ih h
set_option maxRecDepth 20000 in
theorem w_Lm_read_35b {X : HX} {ad : Nat → Nat} {I : HI} {J : HJ} {N : HN} {r : HI × HJ × Int32} {k35 : HI → HJ → Int32 → Option (HI × HJ × Int32)} {a0 : Nat} {p1 : Int32} {p2 : Int32} {x4 : Int32} (C : Cx X c_Lm_read RX10 5 (some .int) rm_Lm_read) (ha0 : gk Tc nC a0 (0, 10))
    (hk35 : ∀ (I : HI) (J : HJ) (x4 : Int32), k35 I J x4 = some r → G Tc X ad nC 0 0 I J N (gE X Tc ad nC (r.1, r.2.1, N, fun _ => some (.int r.2.2))) 35 5 [(0, .ref (ad a0)), (1, .int p1), (2, .int p2), (4, .int x4)] [])
    (h : Lm_read_35b N a0 p1 p2 k35 I J x4 = some r) : G Tc X ad nC 0 0 I J N (gE X Tc ad nC (r.1, r.2.1, N, fun _ => some (.int r.2.2))) 35 5 [(0, .ref (ad a0)), (1, .int p1), (2, .int p2), (4, .int x4)] [] := by
  refine g_iload (pc := 35) C d_Lm_read_35 3 rfl ?_
  refine g_bipush (pc := 37) C (14 : Int32) d_Lm_read_37 (by decide) ?_
  refine g_icmp_ge (pc := 39) C 69 d_Lm_read_39 rfl (fun e1 => ?_) (fun e1 => ?_)
  · have h := o_pos e1 h
    refine g_iconst (pc := 69) C (0 : Int32) d_Lm_read_69 (by decide) ?_
    refine g_istore (pc := 70) (lv' := [(4, .int (0 : Int32)), (0, .ref (ad a0)), (1, .int p1), (2, .int p2)]) C d_Lm_read_70 (by decide) rfl ?_
    refine g_lv [1, 2, 3, 0] rfl ?_
    exact w_Lm_read_72 C ha0 _ _ _ _ h
  · have h := o_neg e1 h
    refine g_aload_n (pc := 42) C d_Lm_read_42 rfl 0 rfl ?_
    obtain ⟨b2, hnb2, hb2, h⟩ := o_rq h
    refine g_get (pc := 43) (k := 6) (v := va_rf ((N a0 6).map ad)) C gcX10 inX10 (by decide) fl_Lm_54 ha0 rfl d_Lm_read_43 ?_
    refine g_top (g_rf hnb2) ?_
    refine g_iload_n (pc := 46) C d_Lm_read_46 rfl 1 rfl ?_
    refine g_iload_n (pc := 47) C d_Lm_read_47 rfl 2 rfl ?_
    refine g_iload (pc := 48) C d_Lm_read_48 3 rfl ?_
    refine g_iadd (pc := 50) C d_Lm_read_50 ?_
    obtain ⟨r3, hc4, h⟩ := o_bn1 h
    refine g_V (pc := 51) (rest := []) C (k_Sh_item (xl X) hb2 hc4) sm_Sh_item ml_Lm_121 im_Sh_item se_Sh_item gcX8 rfl hb2 ⟨rfl, rfl, Nat.le_of_ble_eq_true rfl, Nat.le_of_ble_eq_true rfl⟩ ⟨Nat.zero_le _, Nat.zero_le _⟩ rfl rfl (Nat.le_of_ble_eq_true rfl) d_Lm_read_51 [.long r3] rfl ?_
    obtain ⟨r5, hc6, h⟩ := o_bn1 h
    refine g_S (pc := 54) (rest := []) C (k_Lm_isWishNumber (xl X)  hc6) sm_Lm_isWishNumber ml_Lm_76 st_Lm_isWishNumber ⟨rfl, rfl, Nat.le_of_ble_eq_true rfl, Nat.le_of_ble_eq_true rfl⟩ ⟨Nat.zero_le _, Nat.zero_le _⟩ rfl rfl (Nat.le_of_ble_eq_true rfl) d_Lm_read_54 [.int r5] rfl ?_
    refine g_if_ne (pc := 57) C 63 d_Lm_read_57 rfl (fun e7 => ?_) (fun e7 => ?_)
    · have h := o_neg e7 h
      refine g_iinc (pc := 63) (q := 3) (lv' := [(4, .int (x4 + 1)), (0, .ref (ad a0)), (1, .int p1), (2, .int p2)]) C d_Lm_read_63 rfl rfl (by decide) rfl ?_
      refine g_goto (pc := 66) C 35 d_Lm_read_66 rfl ?_
      refine g_lv [1, 2, 3, 0] rfl ?_
      exact hk35 _ _ _ h
    · have h := o_pos e7 h
      refine g_bipush (pc := 60) C (-2 : Int32) d_Lm_read_60 (by decide) ?_
      obtain rfl := o_ret h
      exact g_iret (pc := 62) C d_Lm_read_62
set_option maxRecDepth 20000 in
theorem w_Lm_read_35 {X : HX} {ad : Nat → Nat} {N : HN} {r : HI × HJ × Int32} {a0 : Nat} {p1 : Int32} {p2 : Int32} (C : Cx X c_Lm_read RX10 5 (some .int) rm_Lm_read) (ha0 : gk Tc nC a0 (0, 10)) : ∀ (n : Nat) (I : HI) (J : HJ) (x4 : Int32), Lm_read_35 N a0 p1 p2 n I J x4 = some r → G Tc X ad nC 0 0 I J N (gE X Tc ad nC (r.1, r.2.1, N, fun _ => some (.int r.2.2))) 35 5 [(0, .ref (ad a0)), (1, .int p1), (2, .int p2), (4, .int x4)] [] := by
  intro n
  induction n with
  | zero => intro I J x4 h; cases h
  | succ n ih => intro I J x4 h; exact w_Lm_read_35b C ha0 ih h
set_option maxRecDepth 20000 in
theorem w_Lm_read_0 {X : HX} {ad : Nat → Nat} {I : HI} {J : HJ} {N : HN} {r : HI × HJ × Int32} {a0 : Nat} {p1 : Int32} {p2 : Int32} (C : Cx X c_Lm_read RX10 5 (some .int) rm_Lm_read) (ha0 : gk Tc nC a0 (0, 10))
    (h : Lm_read_0 N a0 p1 p2 I J = some r) : G Tc X ad nC 0 0 I J N (gE X Tc ad nC (r.1, r.2.1, N, fun _ => some (.int r.2.2))) 0 5 [(0, .ref (ad a0)), (1, .int p1), (2, .int p2)] [] := by
  refine g_aload_n (pc := 0) C d_Lm_read_0 rfl 0 rfl ?_
  refine g_iload_n (pc := 1) C d_Lm_read_1 rfl 1 rfl ?_
  obtain ⟨I1, r2, hc3, h⟩ := o_bn2 h
  refine g_V (pc := 2) (rest := []) C (k_Lm_sheetRefusal (xl X) ha0 hc3) sm_Lm_sheetRefusal ml_Lm_110 im_Lm_sheetRefusal se_Lm_sheetRefusal gcX10 rfl ha0 ⟨rfl, rfl, Nat.le_of_ble_eq_true rfl, Nat.le_of_ble_eq_true rfl⟩ ⟨Nat.zero_le _, Nat.zero_le _⟩ rfl rfl (Nat.le_of_ble_eq_true rfl) d_Lm_read_2 [.int r2] rfl ?_
  refine g_istore_n (pc := 5) (lv' := [(3, .int r2), (0, .ref (ad a0)), (1, .int p1), (2, .int p2)]) C d_Lm_read_5 rfl (by decide) rfl ?_
  refine g_iload_n (pc := 6) C d_Lm_read_6 rfl 0 rfl ?_
  refine g_if_eq (pc := 7) C 12 d_Lm_read_7 rfl (fun e4 => ?_) (fun e4 => ?_)
  · have h := o_pos e4 h
    refine g_aload_n (pc := 12) C d_Lm_read_12 rfl 1 rfl ?_
    obtain ⟨b5, hnb5, hb5, h⟩ := o_rq h
    refine g_get (pc := 13) (k := 6) (v := va_rf ((N a0 6).map ad)) C gcX10 inX10 (by decide) fl_Lm_54 ha0 rfl d_Lm_read_13 ?_
    refine g_top (g_rf hnb5) ?_
    refine g_iload_n (pc := 16) C d_Lm_read_16 rfl 2 rfl ?_
    refine g_iload_n (pc := 17) C d_Lm_read_17 rfl 3 rfl ?_
    refine g_bipush (pc := 18) C (14 : Int32) d_Lm_read_18 (by decide) ?_
    obtain ⟨r6, hc7, h⟩ := o_bn1 h
    refine g_V (pc := 20) (rest := []) C (k_Sh_hasRun (xl X) hb5 hc7) sm_Sh_hasRun ml_Lm_114 im_Sh_hasRun se_Sh_hasRun gcX8 rfl hb5 ⟨rfl, rfl, Nat.le_of_ble_eq_true rfl, Nat.le_of_ble_eq_true rfl⟩ ⟨Nat.zero_le _, Nat.zero_le _⟩ rfl rfl (Nat.le_of_ble_eq_true rfl) d_Lm_read_20 [.int r6] rfl ?_
    refine g_if_ne (pc := 23) C 32 d_Lm_read_23 rfl (fun e8 => ?_) (fun e8 => ?_)
    · have h := o_neg e8 h
      refine g_iconst (pc := 32) C (0 : Int32) d_Lm_read_32 (by decide) ?_
      refine g_istore (pc := 33) (lv' := [(4, .int (0 : Int32)), (3, .int r2), (0, .ref (ad a0)), (1, .int p1), (2, .int p2)]) C d_Lm_read_33 (by decide) rfl ?_
      refine g_lv [2, 3, 4, 0] rfl ?_
      exact w_Lm_read_35 C ha0 _ _ _ _ h
    · have h := o_pos e8 h
      refine g_aload_n (pc := 26) C d_Lm_read_26 rfl 1 rfl ?_
      refine g_iconst (pc := 27) C (2 : Int32) d_Lm_read_27 (by decide) ?_
      obtain ⟨I9, r10, hc11, h⟩ := o_bn2 h
      refine g_V (pc := 28) (rest := []) C (k_Lm_finding (xl X) ha0 hc11) sm_Lm_finding ml_Lm_118 im_Lm_finding se_Lm_finding gcX10 rfl ha0 ⟨rfl, rfl, Nat.le_of_ble_eq_true rfl, Nat.le_of_ble_eq_true rfl⟩ ⟨Nat.zero_le _, Nat.zero_le _⟩ rfl rfl (Nat.le_of_ble_eq_true rfl) d_Lm_read_28 [.int r10] rfl ?_
      obtain rfl := o_ret h
      exact g_iret (pc := 31) C d_Lm_read_31
  · have h := o_neg e4 h
    refine g_iload_n (pc := 10) C d_Lm_read_10 rfl 0 rfl ?_
    obtain rfl := o_ret h
    exact g_iret (pc := 11) C d_Lm_read_11
set_option maxRecDepth 20000 in
theorem k_Lm_read (l : Launch) {I : HI} {J : HJ} {N : HN} {a0 : Nat} {p1 : Int32} {p2 : Int32} {r : HI × HJ × Int32} (ha0 : gk Tc nC a0 (0, 10)) (h : Lm_read N a0 p1 p2 I J = some r) : gM l y_Lm_read c_Lm_read 5 (some .int) rm_Lm_read Tc nC I J N (fun ad => [.ref (ad a0), .int p1, .int p2]) (r.1, r.2.1, N, fun _ => some (.int r.2.2)) :=
  g_meth (lv := fun ad => [(0, .ref (ad a0)), (1, .int p1), (2, .int p2)]) (by decide) (fun _ => Nat.le_of_ble_eq_true rfl) (fun _ => rfl) (fun X ad C => g_lv [0, 1, 2] rfl (w_Lm_read_0 C ha0 h))
theorem d_Lm_info_0 : decode c_Lm_info 0 = .ok (.iload_n 1, 1) := by decide +kernel
theorem d_Lm_info_1 : decode c_Lm_info 1 = .ok (.tableswitch 99 0 4 #[35, 47, 59, 75, 87], 35) := by decide +kernel
theorem d_Lm_info_36 : decode c_Lm_info 36 = .ok (.aload_n 0, 1) := by decide +kernel
theorem d_Lm_info_37 : decode c_Lm_info 37 = .ok (.getfield 12, 3) := by decide +kernel
theorem d_Lm_info_40 : decode c_Lm_info 40 = .ok (.iconst 0, 1) := by decide +kernel
theorem d_Lm_info_41 : decode c_Lm_info 41 = .ok (.invokevirtual 81, 3) := by decide +kernel
theorem d_Lm_info_44 : decode c_Lm_info 44 = .ok (.invokevirtual 128, 3) := by decide +kernel
theorem d_Lm_info_47 : decode c_Lm_info 47 = .ok (.ireturn, 1) := by decide +kernel
theorem d_Lm_info_48 : decode c_Lm_info 48 = .ok (.aload_n 0, 1) := by decide +kernel
theorem d_Lm_info_49 : decode c_Lm_info 49 = .ok (.getfield 12, 3) := by decide +kernel
theorem d_Lm_info_52 : decode c_Lm_info 52 = .ok (.iconst 1, 1) := by decide +kernel
theorem d_Lm_info_53 : decode c_Lm_info 53 = .ok (.invokevirtual 81, 3) := by decide +kernel
theorem d_Lm_info_56 : decode c_Lm_info 56 = .ok (.invokevirtual 128, 3) := by decide +kernel
theorem d_Lm_info_59 : decode c_Lm_info 59 = .ok (.ireturn, 1) := by decide +kernel
theorem d_Lm_info_60 : decode c_Lm_info 60 = .ok (.aload_n 0, 1) := by decide +kernel
theorem d_Lm_info_61 : decode c_Lm_info 61 = .ok (.getfield 12, 3) := by decide +kernel
theorem d_Lm_info_64 : decode c_Lm_info 64 = .ok (.invokevirtual 98, 3) := by decide +kernel
theorem d_Lm_info_67 : decode c_Lm_info 67 = .ok (.ifCond .eq 7, 3) := by decide +kernel
theorem d_Lm_info_70 : decode c_Lm_info 70 = .ok (.iconst 1, 1) := by decide +kernel
theorem d_Lm_info_71 : decode c_Lm_info 71 = .ok (.goto 4, 3) := by decide +kernel
theorem d_Lm_info_74 : decode c_Lm_info 74 = .ok (.iconst 0, 1) := by decide +kernel
theorem d_Lm_info_75 : decode c_Lm_info 75 = .ok (.ireturn, 1) := by decide +kernel
theorem d_Lm_info_76 : decode c_Lm_info 76 = .ok (.aload_n 0, 1) := by decide +kernel
theorem d_Lm_info_77 : decode c_Lm_info 77 = .ok (.getfield 12, 3) := by decide +kernel
theorem d_Lm_info_80 : decode c_Lm_info 80 = .ok (.iconst 0, 1) := by decide +kernel
theorem d_Lm_info_81 : decode c_Lm_info 81 = .ok (.invokevirtual 81, 3) := by decide +kernel
theorem d_Lm_info_84 : decode c_Lm_info 84 = .ok (.invokevirtual 131, 3) := by decide +kernel
theorem d_Lm_info_87 : decode c_Lm_info 87 = .ok (.ireturn, 1) := by decide +kernel
theorem d_Lm_info_88 : decode c_Lm_info 88 = .ok (.aload_n 0, 1) := by decide +kernel
theorem d_Lm_info_89 : decode c_Lm_info 89 = .ok (.getfield 12, 3) := by decide +kernel
theorem d_Lm_info_92 : decode c_Lm_info 92 = .ok (.iconst 1, 1) := by decide +kernel
theorem d_Lm_info_93 : decode c_Lm_info 93 = .ok (.invokevirtual 81, 3) := by decide +kernel
theorem d_Lm_info_96 : decode c_Lm_info 96 = .ok (.invokevirtual 131, 3) := by decide +kernel
theorem d_Lm_info_99 : decode c_Lm_info 99 = .ok (.ireturn, 1) := by decide +kernel
theorem d_Lm_info_100 : decode c_Lm_info 100 = .ok (.bipush (-9), 2) := by decide +kernel
theorem d_Lm_info_102 : decode c_Lm_info 102 = .ok (.ireturn, 1) := by decide +kernel
set_option maxRecDepth 20000 in
theorem w_Lm_info_0 {X : HX} {ad : Nat → Nat} {I : HI} {J : HJ} {N : HN} {r : Int32} {a0 : Nat} {p1 : Int32} (C : Cx X c_Lm_info RX10 2 (some .int) rm_Lm_info) (ha0 : gk Tc nC a0 (0, 10))
    (h : Lm_info_0 J N a0 p1 = some r) : G Tc X ad nC 0 0 I J N (gE X Tc ad nC (I, J, N, fun _ => some (.int r))) 0 2 [(0, .ref (ad a0)), (1, .int p1)] [] := by
  refine g_iload_n (pc := 0) C d_Lm_info_0 rfl 1 rfl ?_
  by_cases e1 : p1 = (0 : Int32)
  · have h := o_pos e1 h
    refine g_tableIn (pc := 1) C 36 d_Lm_info_1 (by rw [e1]; decide) (by rw [e1]; decide) (by rw [e1]; rfl) rfl ?_
    refine g_aload_n (pc := 36) C d_Lm_info_36 rfl 0 rfl ?_
    obtain ⟨b2, hnb2, hb2, h⟩ := o_rq h
    refine g_get (pc := 37) (k := 0) (v := va_rf ((N a0 0).map ad)) C gcX10 inX10 (by decide) fl_Lm_12 ha0 rfl d_Lm_info_37 ?_
    refine g_top (g_rf hnb2) ?_
    refine g_iconst (pc := 40) C (0 : Int32) d_Lm_info_40 (by decide) ?_
    obtain ⟨b3, hc4, h⟩ := o_bn1 h
    refine g_V (pc := 41) (rest := []) C (k_Pa_side (xl X) hb2 hc4) sm_Pa_side ml_Lm_81 im_Pa_side se_Pa_side gcX5 rfl hb2 ⟨rfl, rfl, Nat.le_of_ble_eq_true rfl, Nat.le_of_ble_eq_true rfl⟩ ⟨Nat.zero_le _, Nat.zero_le _⟩ rfl rfl (Nat.le_of_ble_eq_true rfl) d_Lm_info_41 [.ref (ad b3)] rfl ?_
    obtain ⟨hb3, h⟩ := o_gd h
    have hb3 : gk Tc nC b3 (0, 6) := of_decide_eq_true (p := b3 < nC ∧ Tc b3 = (0, 6)) hb3
    obtain ⟨r5, hc6, h⟩ := o_bn1 h
    refine g_V (pc := 44) (rest := []) C (k_Po_degree (xl X) hb3 hc6) sm_Po_degree ml_Lm_128 im_Po_degree se_Po_degree gcX6 rfl hb3 ⟨rfl, rfl, Nat.le_of_ble_eq_true rfl, Nat.le_of_ble_eq_true rfl⟩ ⟨Nat.zero_le _, Nat.zero_le _⟩ rfl rfl (Nat.le_of_ble_eq_true rfl) d_Lm_info_44 [.int r5] rfl ?_
    obtain rfl := o_ret h
    exact g_iret (pc := 47) C d_Lm_info_47
  have h := o_neg e1 h
  by_cases e7 : p1 = (1 : Int32)
  · have h := o_pos e7 h
    refine g_tableIn (pc := 1) C 48 d_Lm_info_1 (by rw [e7]; decide) (by rw [e7]; decide) (by rw [e7]; rfl) rfl ?_
    refine g_aload_n (pc := 48) C d_Lm_info_48 rfl 0 rfl ?_
    obtain ⟨b8, hnb8, hb8, h⟩ := o_rq h
    refine g_get (pc := 49) (k := 0) (v := va_rf ((N a0 0).map ad)) C gcX10 inX10 (by decide) fl_Lm_12 ha0 rfl d_Lm_info_49 ?_
    refine g_top (g_rf hnb8) ?_
    refine g_iconst (pc := 52) C (1 : Int32) d_Lm_info_52 (by decide) ?_
    obtain ⟨b9, hc10, h⟩ := o_bn1 h
    refine g_V (pc := 53) (rest := []) C (k_Pa_side (xl X) hb8 hc10) sm_Pa_side ml_Lm_81 im_Pa_side se_Pa_side gcX5 rfl hb8 ⟨rfl, rfl, Nat.le_of_ble_eq_true rfl, Nat.le_of_ble_eq_true rfl⟩ ⟨Nat.zero_le _, Nat.zero_le _⟩ rfl rfl (Nat.le_of_ble_eq_true rfl) d_Lm_info_53 [.ref (ad b9)] rfl ?_
    obtain ⟨hb9, h⟩ := o_gd h
    have hb9 : gk Tc nC b9 (0, 6) := of_decide_eq_true (p := b9 < nC ∧ Tc b9 = (0, 6)) hb9
    obtain ⟨r11, hc12, h⟩ := o_bn1 h
    refine g_V (pc := 56) (rest := []) C (k_Po_degree (xl X) hb9 hc12) sm_Po_degree ml_Lm_128 im_Po_degree se_Po_degree gcX6 rfl hb9 ⟨rfl, rfl, Nat.le_of_ble_eq_true rfl, Nat.le_of_ble_eq_true rfl⟩ ⟨Nat.zero_le _, Nat.zero_le _⟩ rfl rfl (Nat.le_of_ble_eq_true rfl) d_Lm_info_56 [.int r11] rfl ?_
    obtain rfl := o_ret h
    exact g_iret (pc := 59) C d_Lm_info_59
  have h := o_neg e7 h
  by_cases e13 : p1 = (2 : Int32)
  · have h := o_pos e13 h
    refine g_tableIn (pc := 1) C 60 d_Lm_info_1 (by rw [e13]; decide) (by rw [e13]; decide) (by rw [e13]; rfl) rfl ?_
    refine g_aload_n (pc := 60) C d_Lm_info_60 rfl 0 rfl ?_
    obtain ⟨b14, hnb14, hb14, h⟩ := o_rq h
    refine g_get (pc := 61) (k := 0) (v := va_rf ((N a0 0).map ad)) C gcX10 inX10 (by decide) fl_Lm_12 ha0 rfl d_Lm_info_61 ?_
    refine g_top (g_rf hnb14) ?_
    obtain ⟨r15, hc16, h⟩ := o_bn1 h
    refine g_V (pc := 64) (rest := []) C (k_Pa_isLawful (xl X) hb14 hc16) sm_Pa_isLawful ml_Lm_98 im_Pa_isLawful se_Pa_isLawful gcX5 rfl hb14 ⟨rfl, rfl, Nat.le_of_ble_eq_true rfl, Nat.le_of_ble_eq_true rfl⟩ ⟨Nat.zero_le _, Nat.zero_le _⟩ rfl rfl (Nat.le_of_ble_eq_true rfl) d_Lm_info_64 [.int r15] rfl ?_
    refine g_if_eq (pc := 67) C 74 d_Lm_info_67 rfl (fun e17 => ?_) (fun e17 => ?_)
    · have h := o_pos e17 h
      refine g_iconst (pc := 74) C (0 : Int32) d_Lm_info_74 (by decide) ?_
      obtain rfl := o_ret h
      exact g_iret (pc := 75) C d_Lm_info_75
    · have h := o_neg e17 h
      refine g_iconst (pc := 70) C (1 : Int32) d_Lm_info_70 (by decide) ?_
      refine g_goto (pc := 71) C 75 d_Lm_info_71 rfl ?_
      obtain rfl := o_ret h
      exact g_iret (pc := 75) C d_Lm_info_75
  have h := o_neg e13 h
  by_cases e18 : p1 = (3 : Int32)
  · have h := o_pos e18 h
    refine g_tableIn (pc := 1) C 76 d_Lm_info_1 (by rw [e18]; decide) (by rw [e18]; decide) (by rw [e18]; rfl) rfl ?_
    refine g_aload_n (pc := 76) C d_Lm_info_76 rfl 0 rfl ?_
    obtain ⟨b19, hnb19, hb19, h⟩ := o_rq h
    refine g_get (pc := 77) (k := 0) (v := va_rf ((N a0 0).map ad)) C gcX10 inX10 (by decide) fl_Lm_12 ha0 rfl d_Lm_info_77 ?_
    refine g_top (g_rf hnb19) ?_
    refine g_iconst (pc := 80) C (0 : Int32) d_Lm_info_80 (by decide) ?_
    obtain ⟨b20, hc21, h⟩ := o_bn1 h
    refine g_V (pc := 81) (rest := []) C (k_Pa_side (xl X) hb19 hc21) sm_Pa_side ml_Lm_81 im_Pa_side se_Pa_side gcX5 rfl hb19 ⟨rfl, rfl, Nat.le_of_ble_eq_true rfl, Nat.le_of_ble_eq_true rfl⟩ ⟨Nat.zero_le _, Nat.zero_le _⟩ rfl rfl (Nat.le_of_ble_eq_true rfl) d_Lm_info_81 [.ref (ad b20)] rfl ?_
    obtain ⟨hb20, h⟩ := o_gd h
    have hb20 : gk Tc nC b20 (0, 6) := of_decide_eq_true (p := b20 < nC ∧ Tc b20 = (0, 6)) hb20
    obtain ⟨r22, hc23, h⟩ := o_bn1 h
    refine g_V (pc := 84) (rest := []) C (k_Po_leastPower (xl X) hb20 hc23) sm_Po_leastPower ml_Lm_131 im_Po_leastPower se_Po_leastPower gcX6 rfl hb20 ⟨rfl, rfl, Nat.le_of_ble_eq_true rfl, Nat.le_of_ble_eq_true rfl⟩ ⟨Nat.zero_le _, Nat.zero_le _⟩ rfl rfl (Nat.le_of_ble_eq_true rfl) d_Lm_info_84 [.int r22] rfl ?_
    obtain rfl := o_ret h
    exact g_iret (pc := 87) C d_Lm_info_87
  have h := o_neg e18 h
  by_cases e24 : p1 = (4 : Int32)
  · have h := o_pos e24 h
    refine g_tableIn (pc := 1) C 88 d_Lm_info_1 (by rw [e24]; decide) (by rw [e24]; decide) (by rw [e24]; rfl) rfl ?_
    refine g_aload_n (pc := 88) C d_Lm_info_88 rfl 0 rfl ?_
    obtain ⟨b25, hnb25, hb25, h⟩ := o_rq h
    refine g_get (pc := 89) (k := 0) (v := va_rf ((N a0 0).map ad)) C gcX10 inX10 (by decide) fl_Lm_12 ha0 rfl d_Lm_info_89 ?_
    refine g_top (g_rf hnb25) ?_
    refine g_iconst (pc := 92) C (1 : Int32) d_Lm_info_92 (by decide) ?_
    obtain ⟨b26, hc27, h⟩ := o_bn1 h
    refine g_V (pc := 93) (rest := []) C (k_Pa_side (xl X) hb25 hc27) sm_Pa_side ml_Lm_81 im_Pa_side se_Pa_side gcX5 rfl hb25 ⟨rfl, rfl, Nat.le_of_ble_eq_true rfl, Nat.le_of_ble_eq_true rfl⟩ ⟨Nat.zero_le _, Nat.zero_le _⟩ rfl rfl (Nat.le_of_ble_eq_true rfl) d_Lm_info_93 [.ref (ad b26)] rfl ?_
    obtain ⟨hb26, h⟩ := o_gd h
    have hb26 : gk Tc nC b26 (0, 6) := of_decide_eq_true (p := b26 < nC ∧ Tc b26 = (0, 6)) hb26
    obtain ⟨r28, hc29, h⟩ := o_bn1 h
    refine g_V (pc := 96) (rest := []) C (k_Po_leastPower (xl X) hb26 hc29) sm_Po_leastPower ml_Lm_131 im_Po_leastPower se_Po_leastPower gcX6 rfl hb26 ⟨rfl, rfl, Nat.le_of_ble_eq_true rfl, Nat.le_of_ble_eq_true rfl⟩ ⟨Nat.zero_le _, Nat.zero_le _⟩ rfl rfl (Nat.le_of_ble_eq_true rfl) d_Lm_info_96 [.int r28] rfl ?_
    obtain rfl := o_ret h
    exact g_iret (pc := 99) C d_Lm_info_99
  have h := o_neg e24 h
  refine g_tableOut (pc := 1) C 100 d_Lm_info_1 (sw_out _ 5 (by decide) (fun k hk => by
      rcases (show k = 0 ∨ k = 1 ∨ k = 2 ∨ k = 3 ∨ k = 4 by omega) with rfl | rfl | rfl | rfl | rfl
      · exact e1
      · exact e7
      · exact e13
      · exact e18
      · exact e24)) rfl ?_
  refine g_bipush (pc := 100) C (-9 : Int32) d_Lm_info_100 (by decide) ?_
  obtain rfl := o_ret h
  exact g_iret (pc := 102) C d_Lm_info_102
set_option maxRecDepth 20000 in
theorem k_Lm_info (l : Launch) {I : HI} {J : HJ} {N : HN} {a0 : Nat} {p1 : Int32} {r : Int32} (ha0 : gk Tc nC a0 (0, 10)) (h : Lm_info J N a0 p1 = some r) : gM l y_Lm_info c_Lm_info 2 (some .int) rm_Lm_info Tc nC I J N (fun ad => [.ref (ad a0), .int p1]) (I, J, N, fun _ => some (.int r)) :=
  g_meth (lv := fun ad => [(0, .ref (ad a0)), (1, .int p1)]) (by decide) (fun _ => Nat.le_of_ble_eq_true rfl) (fun _ => rfl) (fun X ad C => g_lv [0, 1] rfl (w_Lm_info_0 C ha0 h))
theorem d_Lm_asLong_0 : decode c_Lm_asLong 0 = .ok (.ldc2_w 310, 3) := by decide +kernel
theorem d_Lm_asLong_3 : decode c_Lm_asLong 3 = .ok (.iload_n 0, 1) := by decide +kernel
theorem d_Lm_asLong_4 : decode c_Lm_asLong 4 = .ok (.i2l, 1) := by decide +kernel
theorem d_Lm_asLong_5 : decode c_Lm_asLong 5 = .ok (.lsub, 1) := by decide +kernel
theorem d_Lm_asLong_6 : decode c_Lm_asLong 6 = .ok (.lreturn, 1) := by decide +kernel
set_option maxRecDepth 20000 in
theorem w_Lm_asLong_0 {X : HX} {ad : Nat → Nat} {I : HI} {J : HJ} {N : HN} {r : Int64} {p0 : Int32} (C : Cx X c_Lm_asLong RX10 1 (some .long) rm_Lm_asLong)
    (h : Lm_asLong_0 p0 = some r) : G Tc X ad nC 0 0 I J N (gE X Tc ad nC (I, J, N, fun _ => some (.long r))) 0 1 [(0, .int p0)] [] := by
  refine g_ldc2 (pc := 0) C kc_Lm_310 d_Lm_asLong_0 ?_
  refine g_iload_n (pc := 3) C d_Lm_asLong_3 rfl 0 rfl ?_
  refine g_i2l (pc := 4) C d_Lm_asLong_4 ?_
  refine g_lsub (pc := 5) C d_Lm_asLong_5 ?_
  obtain rfl := o_ret h
  exact g_lret (pc := 6) C d_Lm_asLong_6
set_option maxRecDepth 20000 in
theorem k_Lm_asLong (l : Launch) {I : HI} {J : HJ} {N : HN} {p0 : Int32} {r : Int64} (h : Lm_asLong p0 = some r) : gM l y_Lm_asLong c_Lm_asLong 1 (some .long) rm_Lm_asLong Tc nC I J N (fun ad => [.int p0]) (I, J, N, fun _ => some (.long r)) :=
  g_meth (lv := fun ad => [(0, .int p0)]) (by decide) (fun _ => Nat.le_of_ble_eq_true rfl) (fun _ => rfl) (fun X ad C => g_lv [0] rfl (w_Lm_asLong_0 C  h))
theorem d_Lm_reactance_0 : decode c_Lm_reactance 0 = .ok (.iload_n 1, 1) := by decide +kernel
theorem d_Lm_reactance_1 : decode c_Lm_reactance 1 = .ok (.iconst 1, 1) := by decide +kernel
theorem d_Lm_reactance_2 : decode c_Lm_reactance 2 = .ok (.if_icmp .lt 29, 3) := by decide +kernel
theorem d_Lm_reactance_5 : decode c_Lm_reactance 5 = .ok (.iload_n 1, 1) := by decide +kernel
theorem d_Lm_reactance_6 : decode c_Lm_reactance 6 = .ok (.bipush 9, 2) := by decide +kernel
theorem d_Lm_reactance_8 : decode c_Lm_reactance 8 = .ok (.if_icmp .gt 23, 3) := by decide +kernel
theorem d_Lm_reactance_11 : decode c_Lm_reactance 11 = .ok (.iload_n 2, 1) := by decide +kernel
theorem d_Lm_reactance_12 : decode c_Lm_reactance 12 = .ok (.iconst 1, 1) := by decide +kernel
theorem d_Lm_reactance_13 : decode c_Lm_reactance 13 = .ok (.if_icmp .lt 18, 3) := by decide +kernel
theorem d_Lm_reactance_16 : decode c_Lm_reactance 16 = .ok (.iload_n 2, 1) := by decide +kernel
theorem d_Lm_reactance_17 : decode c_Lm_reactance 17 = .ok (.bipush 9, 2) := by decide +kernel
theorem d_Lm_reactance_19 : decode c_Lm_reactance 19 = .ok (.if_icmp .gt 12, 3) := by decide +kernel
theorem d_Lm_reactance_22 : decode c_Lm_reactance 22 = .ok (.iload_n 3, 1) := by decide +kernel
theorem d_Lm_reactance_23 : decode c_Lm_reactance 23 = .ok (.ifCond .lt 8, 3) := by decide +kernel
theorem d_Lm_reactance_26 : decode c_Lm_reactance 26 = .ok (.iload_n 3, 1) := by decide +kernel
theorem d_Lm_reactance_27 : decode c_Lm_reactance 27 = .ok (.iconst 1, 1) := by decide +kernel
theorem d_Lm_reactance_28 : decode c_Lm_reactance 28 = .ok (.if_icmp .le 9, 3) := by decide +kernel
theorem d_Lm_reactance_31 : decode c_Lm_reactance 31 = .ok (.bipush (-2), 2) := by decide +kernel
theorem d_Lm_reactance_33 : decode c_Lm_reactance 33 = .ok (.invokestatic 134, 3) := by decide +kernel
theorem d_Lm_reactance_36 : decode c_Lm_reactance 36 = .ok (.lreturn, 1) := by decide +kernel
theorem d_Lm_reactance_37 : decode c_Lm_reactance 37 = .ok (.aload_n 0, 1) := by decide +kernel
theorem d_Lm_reactance_38 : decode c_Lm_reactance 38 = .ok (.getfield 12, 3) := by decide +kernel
theorem d_Lm_reactance_41 : decode c_Lm_reactance 41 = .ok (.invokevirtual 98, 3) := by decide +kernel
theorem d_Lm_reactance_44 : decode c_Lm_reactance 44 = .ok (.ifCond .eq 19, 3) := by decide +kernel
theorem d_Lm_reactance_47 : decode c_Lm_reactance 47 = .ok (.aload_n 0, 1) := by decide +kernel
theorem d_Lm_reactance_48 : decode c_Lm_reactance 48 = .ok (.getfield 61, 3) := by decide +kernel
theorem d_Lm_reactance_51 : decode c_Lm_reactance 51 = .ok (.aload_n 0, 1) := by decide +kernel
theorem d_Lm_reactance_52 : decode c_Lm_reactance 52 = .ok (.getfield 12, 3) := by decide +kernel
theorem d_Lm_reactance_55 : decode c_Lm_reactance 55 = .ok (.iload_n 1, 1) := by decide +kernel
theorem d_Lm_reactance_56 : decode c_Lm_reactance 56 = .ok (.iload_n 2, 1) := by decide +kernel
theorem d_Lm_reactance_57 : decode c_Lm_reactance 57 = .ok (.invokevirtual 137, 3) := by decide +kernel
theorem d_Lm_reactance_60 : decode c_Lm_reactance 60 = .ok (.ifCond .ne 9, 3) := by decide +kernel
theorem d_Lm_reactance_63 : decode c_Lm_reactance 63 = .ok (.bipush (-3), 2) := by decide +kernel
theorem d_Lm_reactance_65 : decode c_Lm_reactance 65 = .ok (.invokestatic 134, 3) := by decide +kernel
theorem d_Lm_reactance_68 : decode c_Lm_reactance 68 = .ok (.lreturn, 1) := by decide +kernel
theorem d_Lm_reactance_69 : decode c_Lm_reactance 69 = .ok (.iload_n 3, 1) := by decide +kernel
theorem d_Lm_reactance_70 : decode c_Lm_reactance 70 = .ok (.ifCond .ne 16, 3) := by decide +kernel
theorem d_Lm_reactance_73 : decode c_Lm_reactance 73 = .ok (.aload_n 0, 1) := by decide +kernel
theorem d_Lm_reactance_74 : decode c_Lm_reactance 74 = .ok (.getfield 61, 3) := by decide +kernel
theorem d_Lm_reactance_77 : decode c_Lm_reactance 77 = .ok (.getfield 141, 3) := by decide +kernel
theorem d_Lm_reactance_80 : decode c_Lm_reactance 80 = .ok (.getfield 145, 3) := by decide +kernel
theorem d_Lm_reactance_83 : decode c_Lm_reactance 83 = .ok (.goto 13, 3) := by decide +kernel
theorem d_Lm_reactance_86 : decode c_Lm_reactance 86 = .ok (.aload_n 0, 1) := by decide +kernel
theorem d_Lm_reactance_87 : decode c_Lm_reactance 87 = .ok (.getfield 61, 3) := by decide +kernel
theorem d_Lm_reactance_90 : decode c_Lm_reactance 90 = .ok (.getfield 141, 3) := by decide +kernel
theorem d_Lm_reactance_93 : decode c_Lm_reactance 93 = .ok (.getfield 151, 3) := by decide +kernel
theorem d_Lm_reactance_96 : decode c_Lm_reactance 96 = .ok (.lreturn, 1) := by decide +kernel
set_option maxRecDepth 20000 in
theorem w_Lm_reactance_63 {X : HX} {ad : Nat → Nat} {I : HI} {J : HJ} {N : HN} {r : HJ × Int64} {a0 : Nat} {p1 : Int32} {p2 : Int32} {p3 : Int32} (C : Cx X c_Lm_reactance RX10 4 (some .long) rm_Lm_reactance) (ha0 : gk Tc nC a0 (0, 10))
    (h : Lm_reactance_63 N a0 p1 p2 p3 J = some r) : G Tc X ad nC 0 0 I J N (gE X Tc ad nC (I, r.1, N, fun _ => some (.long r.2))) 63 4 [] [] := by
  refine g_bipush (pc := 63) C (-3 : Int32) d_Lm_reactance_63 (by decide) ?_
  obtain ⟨r1, hc2, h⟩ := o_bn1 h
  refine g_S (pc := 65) (rest := []) C (k_Lm_asLong (xl X)  hc2) sm_Lm_asLong ml_Lm_134 st_Lm_asLong ⟨rfl, rfl, Nat.le_of_ble_eq_true rfl, Nat.le_of_ble_eq_true rfl⟩ ⟨Nat.zero_le _, Nat.zero_le _⟩ rfl rfl (Nat.le_of_ble_eq_true rfl) d_Lm_reactance_65 [.long r1] rfl ?_
  obtain rfl := o_ret h
  exact g_lret (pc := 68) C d_Lm_reactance_68
set_option maxRecDepth 20000 in
theorem w_Lm_reactance_31 {X : HX} {ad : Nat → Nat} {I : HI} {J : HJ} {N : HN} {r : HJ × Int64} {a0 : Nat} {p1 : Int32} {p2 : Int32} {p3 : Int32} (C : Cx X c_Lm_reactance RX10 4 (some .long) rm_Lm_reactance) (ha0 : gk Tc nC a0 (0, 10))
    (h : Lm_reactance_31 N a0 p1 p2 p3 J = some r) : G Tc X ad nC 0 0 I J N (gE X Tc ad nC (I, r.1, N, fun _ => some (.long r.2))) 31 4 [] [] := by
  refine g_bipush (pc := 31) C (-2 : Int32) d_Lm_reactance_31 (by decide) ?_
  obtain ⟨r1, hc2, h⟩ := o_bn1 h
  refine g_S (pc := 33) (rest := []) C (k_Lm_asLong (xl X)  hc2) sm_Lm_asLong ml_Lm_134 st_Lm_asLong ⟨rfl, rfl, Nat.le_of_ble_eq_true rfl, Nat.le_of_ble_eq_true rfl⟩ ⟨Nat.zero_le _, Nat.zero_le _⟩ rfl rfl (Nat.le_of_ble_eq_true rfl) d_Lm_reactance_33 [.long r1] rfl ?_
  obtain rfl := o_ret h
  exact g_lret (pc := 36) C d_Lm_reactance_36
set_option maxRecDepth 20000 in
theorem w_Lm_reactance_0 {X : HX} {ad : Nat → Nat} {I : HI} {J : HJ} {N : HN} {r : HJ × Int64} {a0 : Nat} {p1 : Int32} {p2 : Int32} {p3 : Int32} (C : Cx X c_Lm_reactance RX10 4 (some .long) rm_Lm_reactance) (ha0 : gk Tc nC a0 (0, 10))
    (h : Lm_reactance_0 N a0 p1 p2 p3 J = some r) : G Tc X ad nC 0 0 I J N (gE X Tc ad nC (I, r.1, N, fun _ => some (.long r.2))) 0 4 [(0, .ref (ad a0)), (1, .int p1), (2, .int p2), (3, .int p3)] [] := by
  refine g_iload_n (pc := 0) C d_Lm_reactance_0 rfl 1 rfl ?_
  refine g_iconst (pc := 1) C (1 : Int32) d_Lm_reactance_1 (by decide) ?_
  refine g_icmp_lt (pc := 2) C 31 d_Lm_reactance_2 rfl (fun e1 => ?_) (fun e1 => ?_)
  · have h := o_pos e1 h
    refine g_lv [] rfl ?_
    exact w_Lm_reactance_31 C ha0 h
  · have h := o_neg e1 h
    refine g_iload_n (pc := 5) C d_Lm_reactance_5 rfl 1 rfl ?_
    refine g_bipush (pc := 6) C (9 : Int32) d_Lm_reactance_6 (by decide) ?_
    refine g_icmp_gt (pc := 8) C 31 d_Lm_reactance_8 rfl (fun e2 => ?_) (fun e2 => ?_)
    · have h := o_pos e2 h
      refine g_lv [] rfl ?_
      exact w_Lm_reactance_31 C ha0 h
    · have h := o_neg e2 h
      refine g_iload_n (pc := 11) C d_Lm_reactance_11 rfl 2 rfl ?_
      refine g_iconst (pc := 12) C (1 : Int32) d_Lm_reactance_12 (by decide) ?_
      refine g_icmp_lt (pc := 13) C 31 d_Lm_reactance_13 rfl (fun e3 => ?_) (fun e3 => ?_)
      · have h := o_pos e3 h
        refine g_lv [] rfl ?_
        exact w_Lm_reactance_31 C ha0 h
      · have h := o_neg e3 h
        refine g_iload_n (pc := 16) C d_Lm_reactance_16 rfl 2 rfl ?_
        refine g_bipush (pc := 17) C (9 : Int32) d_Lm_reactance_17 (by decide) ?_
        refine g_icmp_gt (pc := 19) C 31 d_Lm_reactance_19 rfl (fun e4 => ?_) (fun e4 => ?_)
        · have h := o_pos e4 h
          refine g_lv [] rfl ?_
          exact w_Lm_reactance_31 C ha0 h
        · have h := o_neg e4 h
          refine g_iload_n (pc := 22) C d_Lm_reactance_22 rfl 3 rfl ?_
          refine g_if_lt (pc := 23) C 31 d_Lm_reactance_23 rfl (fun e5 => ?_) (fun e5 => ?_)
          · have h := o_pos e5 h
            refine g_lv [] rfl ?_
            exact w_Lm_reactance_31 C ha0 h
          · have h := o_neg e5 h
            refine g_iload_n (pc := 26) C d_Lm_reactance_26 rfl 3 rfl ?_
            refine g_iconst (pc := 27) C (1 : Int32) d_Lm_reactance_27 (by decide) ?_
            refine g_icmp_le (pc := 28) C 37 d_Lm_reactance_28 rfl (fun e6 => ?_) (fun e6 => ?_)
            · have h := o_pos e6 h
              refine g_aload_n (pc := 37) C d_Lm_reactance_37 rfl 0 rfl ?_
              obtain ⟨b7, hnb7, hb7, h⟩ := o_rq h
              refine g_get (pc := 38) (k := 0) (v := va_rf ((N a0 0).map ad)) C gcX10 inX10 (by decide) fl_Lm_12 ha0 rfl d_Lm_reactance_38 ?_
              refine g_top (g_rf hnb7) ?_
              obtain ⟨r8, hc9, h⟩ := o_bn1 h
              refine g_V (pc := 41) (rest := []) C (k_Pa_isLawful (xl X) hb7 hc9) sm_Pa_isLawful ml_Lm_98 im_Pa_isLawful se_Pa_isLawful gcX5 rfl hb7 ⟨rfl, rfl, Nat.le_of_ble_eq_true rfl, Nat.le_of_ble_eq_true rfl⟩ ⟨Nat.zero_le _, Nat.zero_le _⟩ rfl rfl (Nat.le_of_ble_eq_true rfl) d_Lm_reactance_41 [.int r8] rfl ?_
              refine g_if_eq (pc := 44) C 63 d_Lm_reactance_44 rfl (fun e10 => ?_) (fun e10 => ?_)
              · have h := o_pos e10 h
                refine g_lv [] rfl ?_
                exact w_Lm_reactance_63 C ha0 h
              · have h := o_neg e10 h
                refine g_aload_n (pc := 47) C d_Lm_reactance_47 rfl 0 rfl ?_
                obtain ⟨b11, hnb11, hb11, h⟩ := o_rq h
                refine g_get (pc := 48) (k := 7) (v := va_rf ((N a0 7).map ad)) C gcX10 inX10 (by decide) fl_Lm_61 ha0 rfl d_Lm_reactance_48 ?_
                refine g_top (g_rf hnb11) ?_
                refine g_aload_n (pc := 51) C d_Lm_reactance_51 rfl 0 rfl ?_
                obtain ⟨b12, hnb12, hb12, h⟩ := o_rq h
                refine g_get (pc := 52) (k := 0) (v := va_rf ((N a0 0).map ad)) C gcX10 inX10 (by decide) fl_Lm_12 ha0 rfl d_Lm_reactance_52 ?_
                refine g_top (g_rf hnb12) ?_
                refine g_iload_n (pc := 55) C d_Lm_reactance_55 rfl 1 rfl ?_
                refine g_iload_n (pc := 56) C d_Lm_reactance_56 rfl 2 rfl ?_
                obtain ⟨J13, r14, hc15, h⟩ := o_bn2 h
                refine g_V (pc := 57) (rest := []) C (k_Re_workOut (xl X) hb11 hb12 hc15) sm_Re_workOut ml_Lm_137 im_Re_workOut se_Re_workOut gcX7 rfl hb11 ⟨rfl, rfl, Nat.le_of_ble_eq_true rfl, Nat.le_of_ble_eq_true rfl⟩ ⟨Nat.zero_le _, Nat.zero_le _⟩ rfl rfl (Nat.le_of_ble_eq_true rfl) d_Lm_reactance_57 [.int r14] rfl ?_
                refine g_if_ne (pc := 60) C 69 d_Lm_reactance_60 rfl (fun e16 => ?_) (fun e16 => ?_)
                · have h := o_neg e16 h
                  refine g_iload_n (pc := 69) C d_Lm_reactance_69 rfl 3 rfl ?_
                  refine g_if_ne (pc := 70) C 86 d_Lm_reactance_70 rfl (fun e17 => ?_) (fun e17 => ?_)
                  · have h := o_neg e17 h
                    refine g_aload_n (pc := 86) C d_Lm_reactance_86 rfl 0 rfl ?_
                    obtain ⟨b18, hnb18, hb18, h⟩ := o_rq h
                    refine g_get (pc := 87) (k := 7) (v := va_rf ((N a0 7).map ad)) C gcX10 inX10 (by decide) fl_Lm_61 ha0 rfl d_Lm_reactance_87 ?_
                    refine g_top (g_rf hnb18) ?_
                    obtain ⟨b19, hnb19, hb19, h⟩ := o_rq h
                    refine g_getN (pc := 90) (k := 1) (v := va_rf ((N b18 1).map ad)) C gcX7 inX7 (by decide) fl_Lm_141 hb18 rfl d_Lm_reactance_90 ?_
                    refine g_top (g_rf hnb19) ?_
                    refine g_getN (pc := 93) (k := 1) (v := .long (J13 b19 1)) C gcX2 inX2 (by decide) fl_Lm_151 hb19 rfl d_Lm_reactance_93 ?_
                    obtain rfl := o_ret h
                    exact g_lret (pc := 96) C d_Lm_reactance_96
                  · have h := o_pos e17 h
                    refine g_aload_n (pc := 73) C d_Lm_reactance_73 rfl 0 rfl ?_
                    obtain ⟨b20, hnb20, hb20, h⟩ := o_rq h
                    refine g_get (pc := 74) (k := 7) (v := va_rf ((N a0 7).map ad)) C gcX10 inX10 (by decide) fl_Lm_61 ha0 rfl d_Lm_reactance_74 ?_
                    refine g_top (g_rf hnb20) ?_
                    obtain ⟨b21, hnb21, hb21, h⟩ := o_rq h
                    refine g_getN (pc := 77) (k := 1) (v := va_rf ((N b20 1).map ad)) C gcX7 inX7 (by decide) fl_Lm_141 hb20 rfl d_Lm_reactance_77 ?_
                    refine g_top (g_rf hnb21) ?_
                    refine g_getN (pc := 80) (k := 0) (v := .long (J13 b21 0)) C gcX2 inX2 (by decide) fl_Lm_145 hb21 rfl d_Lm_reactance_80 ?_
                    refine g_goto (pc := 83) C 96 d_Lm_reactance_83 rfl ?_
                    obtain rfl := o_ret h
                    exact g_lret (pc := 96) C d_Lm_reactance_96
                · have h := o_pos e16 h
                  refine g_lv [] rfl ?_
                  exact w_Lm_reactance_63 C ha0 h
            · have h := o_neg e6 h
              refine g_lv [] rfl ?_
              exact w_Lm_reactance_31 C ha0 h
set_option maxRecDepth 20000 in
theorem k_Lm_reactance (l : Launch) {I : HI} {J : HJ} {N : HN} {a0 : Nat} {p1 : Int32} {p2 : Int32} {p3 : Int32} {r : HJ × Int64} (ha0 : gk Tc nC a0 (0, 10)) (h : Lm_reactance N a0 p1 p2 p3 J = some r) : gM l y_Lm_reactance c_Lm_reactance 4 (some .long) rm_Lm_reactance Tc nC I J N (fun ad => [.ref (ad a0), .int p1, .int p2, .int p3]) (I, r.1, N, fun _ => some (.long r.2)) :=
  g_meth (lv := fun ad => [(0, .ref (ad a0)), (1, .int p1), (2, .int p2), (3, .int p3)]) (by decide) (fun _ => Nat.le_of_ble_eq_true rfl) (fun _ => rfl) (fun X ad C => g_lv [0, 1, 2, 3] rfl (w_Lm_reactance_0 C ha0 h))
theorem d_Lm_ladderChanged_0 : decode c_Lm_ladderChanged 0 = .ok (.aload_n 0, 1) := by decide +kernel
theorem d_Lm_ladderChanged_1 : decode c_Lm_ladderChanged 1 = .ok (.getfield 26, 3) := by decide +kernel
theorem d_Lm_ladderChanged_4 : decode c_Lm_ladderChanged 4 = .ok (.aload_n 0, 1) := by decide +kernel
theorem d_Lm_ladderChanged_5 : decode c_Lm_ladderChanged 5 = .ok (.getfield 19, 3) := by decide +kernel
theorem d_Lm_ladderChanged_8 : decode c_Lm_ladderChanged 8 = .ok (.invokevirtual 304, 3) := by decide +kernel
theorem d_Lm_ladderChanged_11 : decode c_Lm_ladderChanged 11 = .ok (.aload_n 0, 1) := by decide +kernel
theorem d_Lm_ladderChanged_12 : decode c_Lm_ladderChanged 12 = .ok (.getfield 40, 3) := by decide +kernel
theorem d_Lm_ladderChanged_15 : decode c_Lm_ladderChanged 15 = .ok (.aload_n 0, 1) := by decide +kernel
theorem d_Lm_ladderChanged_16 : decode c_Lm_ladderChanged 16 = .ok (.getfield 19, 3) := by decide +kernel
theorem d_Lm_ladderChanged_19 : decode c_Lm_ladderChanged 19 = .ok (.invokevirtual 307, 3) := by decide +kernel
theorem d_Lm_ladderChanged_22 : decode c_Lm_ladderChanged 22 = .ok (.return_, 1) := by decide +kernel
set_option maxRecDepth 20000 in
theorem w_Lm_ladderChanged_0 {X : HX} {ad : Nat → Nat} {I : HI} {J : HJ} {N : HN} {r : HI × HJ × HN} {a0 : Nat} (C : Cx X c_Lm_ladderChanged RX10 1 none rm_Lm_ladderChanged) (ha0 : gk Tc nC a0 (0, 10))
    (h : Lm_ladderChanged_0 a0 I J N = some r) : G Tc X ad nC 0 0 I J N (gE X Tc ad nC (r.1, r.2.1, r.2.2, fun _ => none)) 0 1 [(0, .ref (ad a0))] [] := by
  refine g_aload_n (pc := 0) C d_Lm_ladderChanged_0 rfl 0 rfl ?_
  obtain ⟨b1, hnb1, hb1, h⟩ := o_rq h
  refine g_get (pc := 1) (k := 2) (v := va_rf ((N a0 2).map ad)) C gcX10 inX10 (by decide) fl_Lm_26 ha0 rfl d_Lm_ladderChanged_1 ?_
  refine g_top (g_rf hnb1) ?_
  refine g_aload_n (pc := 4) C d_Lm_ladderChanged_4 rfl 0 rfl ?_
  obtain ⟨b2, hnb2, hb2, h⟩ := o_rq h
  refine g_get (pc := 5) (k := 1) (v := va_rf ((N a0 1).map ad)) C gcX10 inX10 (by decide) fl_Lm_19 ha0 rfl d_Lm_ladderChanged_5 ?_
  refine g_top (g_rf hnb2) ?_
  obtain ⟨J3, N4, hc5, h⟩ := o_bn2 h
  refine g_V (pc := 8) (rest := []) C (k_Fo_foldUp (xl X) hb1 hb2 hc5) sm_Fo_foldUp ml_Lm_304 im_Fo_foldUp se_Fo_foldUp gcX1 rfl hb1 ⟨rfl, rfl, Nat.le_of_ble_eq_true rfl, Nat.le_of_ble_eq_true rfl⟩ ⟨Nat.zero_le _, Nat.zero_le _⟩ rfl rfl (Nat.le_of_ble_eq_true rfl) d_Lm_ladderChanged_8 [] rfl ?_
  refine g_aload_n (pc := 11) C d_Lm_ladderChanged_11 rfl 0 rfl ?_
  obtain ⟨b6, hnb6, hb6, h⟩ := o_rq h
  refine g_get (pc := 12) (k := 4) (v := va_rf ((N4 a0 4).map ad)) C gcX10 inX10 (by decide) fl_Lm_40 ha0 rfl d_Lm_ladderChanged_12 ?_
  refine g_top (g_rf hnb6) ?_
  refine g_aload_n (pc := 15) C d_Lm_ladderChanged_15 rfl 0 rfl ?_
  obtain ⟨b7, hnb7, hb7, h⟩ := o_rq h
  refine g_get (pc := 16) (k := 1) (v := va_rf ((N4 a0 1).map ad)) C gcX10 inX10 (by decide) fl_Lm_19 ha0 rfl d_Lm_ladderChanged_16 ?_
  refine g_top (g_rf hnb7) ?_
  obtain ⟨I8, hc9, h⟩ := o_bn1 h
  refine g_V (pc := 19) (rest := []) C (k_Bi_countUp (xl X) hb6 hb7 hc9) sm_Bi_countUp ml_Lm_307 im_Bi_countUp se_Bi_countUp gcX0 rfl hb6 ⟨rfl, rfl, Nat.le_of_ble_eq_true rfl, Nat.le_of_ble_eq_true rfl⟩ ⟨Nat.zero_le _, Nat.zero_le _⟩ rfl rfl (Nat.le_of_ble_eq_true rfl) d_Lm_ladderChanged_19 [] rfl ?_
  obtain rfl := o_ret h
  exact g_vret (pc := 22) C d_Lm_ladderChanged_22
set_option maxRecDepth 20000 in
theorem k_Lm_ladderChanged (l : Launch) {I : HI} {J : HJ} {N : HN} {a0 : Nat} {r : HI × HJ × HN} (ha0 : gk Tc nC a0 (0, 10)) (h : Lm_ladderChanged a0 I J N = some r) : gM l y_Lm_ladderChanged c_Lm_ladderChanged 1 none rm_Lm_ladderChanged Tc nC I J N (fun ad => [.ref (ad a0)]) (r.1, r.2.1, r.2.2, fun _ => none) :=
  g_meth (lv := fun ad => [(0, .ref (ad a0))]) (by decide) (fun _ => Nat.le_of_ble_eq_true rfl) (fun _ => rfl) (fun X ad C => g_lv [0] rfl (w_Lm_ladderChanged_0 C ha0 h))
theorem d_Lm_arm_0 : decode c_Lm_arm 0 = .ok (.iload_n 1, 1) := by decide +kernel
theorem d_Lm_arm_1 : decode c_Lm_arm 1 = .ok (.invokestatic 69, 3) := by decide +kernel
theorem d_Lm_arm_4 : decode c_Lm_arm 4 = .ok (.ifCond .eq 23, 3) := by decide +kernel
theorem d_Lm_arm_7 : decode c_Lm_arm 7 = .ok (.iload_n 2, 1) := by decide +kernel
theorem d_Lm_arm_8 : decode c_Lm_arm 8 = .ok (.ifCond .lt 19, 3) := by decide +kernel
theorem d_Lm_arm_11 : decode c_Lm_arm 11 = .ok (.iload_n 2, 1) := by decide +kernel
theorem d_Lm_arm_12 : decode c_Lm_arm 12 = .ok (.bipush 9, 2) := by decide +kernel
theorem d_Lm_arm_14 : decode c_Lm_arm 14 = .ok (.if_icmp .gt 13, 3) := by decide +kernel
theorem d_Lm_arm_17 : decode c_Lm_arm 17 = .ok (.iload_n 3, 1) := by decide +kernel
theorem d_Lm_arm_18 : decode c_Lm_arm 18 = .ok (.ifCond .lt 9, 3) := by decide +kernel
theorem d_Lm_arm_21 : decode c_Lm_arm 21 = .ok (.iload_n 3, 1) := by decide +kernel
theorem d_Lm_arm_22 : decode c_Lm_arm 22 = .ok (.bipush 9, 2) := by decide +kernel
theorem d_Lm_arm_24 : decode c_Lm_arm 24 = .ok (.if_icmp .le 6, 3) := by decide +kernel
theorem d_Lm_arm_27 : decode c_Lm_arm 27 = .ok (.bipush (-2), 2) := by decide +kernel
theorem d_Lm_arm_29 : decode c_Lm_arm 29 = .ok (.ireturn, 1) := by decide +kernel
theorem d_Lm_arm_30 : decode c_Lm_arm 30 = .ok (.iload_n 2, 1) := by decide +kernel
theorem d_Lm_arm_31 : decode c_Lm_arm 31 = .ok (.ifCond .ne 10, 3) := by decide +kernel
theorem d_Lm_arm_34 : decode c_Lm_arm 34 = .ok (.iload_n 3, 1) := by decide +kernel
theorem d_Lm_arm_35 : decode c_Lm_arm 35 = .ok (.ifCond .ne 6, 3) := by decide +kernel
theorem d_Lm_arm_38 : decode c_Lm_arm 38 = .ok (.bipush (-2), 2) := by decide +kernel
theorem d_Lm_arm_40 : decode c_Lm_arm 40 = .ok (.ireturn, 1) := by decide +kernel
theorem d_Lm_arm_41 : decode c_Lm_arm 41 = .ok (.iload_n 2, 1) := by decide +kernel
theorem d_Lm_arm_42 : decode c_Lm_arm 42 = .ok (.ifCond .ne 7, 3) := by decide +kernel
theorem d_Lm_arm_45 : decode c_Lm_arm 45 = .ok (.iconst 0, 1) := by decide +kernel
theorem d_Lm_arm_46 : decode c_Lm_arm 46 = .ok (.goto 4, 3) := by decide +kernel
theorem d_Lm_arm_49 : decode c_Lm_arm 49 = .ok (.iconst 1, 1) := by decide +kernel
theorem d_Lm_arm_50 : decode c_Lm_arm 50 = .ok (.istore 4, 2) := by decide +kernel
theorem d_Lm_arm_52 : decode c_Lm_arm 52 = .ok (.iload_n 3, 1) := by decide +kernel
theorem d_Lm_arm_53 : decode c_Lm_arm 53 = .ok (.ifCond .ne 7, 3) := by decide +kernel
theorem d_Lm_arm_56 : decode c_Lm_arm 56 = .ok (.iconst 0, 1) := by decide +kernel
theorem d_Lm_arm_57 : decode c_Lm_arm 57 = .ok (.goto 4, 3) := by decide +kernel
theorem d_Lm_arm_60 : decode c_Lm_arm 60 = .ok (.iconst 1, 1) := by decide +kernel
theorem d_Lm_arm_61 : decode c_Lm_arm 61 = .ok (.istore 5, 2) := by decide +kernel
theorem d_Lm_arm_63 : decode c_Lm_arm 63 = .ok (.aload_n 0, 1) := by decide +kernel
theorem d_Lm_arm_64 : decode c_Lm_arm 64 = .ok (.getfield 19, 3) := by decide +kernel
theorem d_Lm_arm_67 : decode c_Lm_arm 67 = .ok (.iload_n 1, 1) := by decide +kernel
theorem d_Lm_arm_68 : decode c_Lm_arm 68 = .ok (.iload_n 2, 1) := by decide +kernel
theorem d_Lm_arm_69 : decode c_Lm_arm 69 = .ok (.iload 4, 2) := by decide +kernel
theorem d_Lm_arm_71 : decode c_Lm_arm 71 = .ok (.iload_n 3, 1) := by decide +kernel
theorem d_Lm_arm_72 : decode c_Lm_arm 72 = .ok (.iload 5, 2) := by decide +kernel
theorem d_Lm_arm_74 : decode c_Lm_arm 74 = .ok (.invokevirtual 154, 3) := by decide +kernel
theorem d_Lm_arm_77 : decode c_Lm_arm 77 = .ok (.ifCond .ne 6, 3) := by decide +kernel
theorem d_Lm_arm_80 : decode c_Lm_arm 80 = .ok (.bipush (-4), 2) := by decide +kernel
theorem d_Lm_arm_82 : decode c_Lm_arm 82 = .ok (.ireturn, 1) := by decide +kernel
theorem d_Lm_arm_83 : decode c_Lm_arm 83 = .ok (.aload_n 0, 1) := by decide +kernel
theorem d_Lm_arm_84 : decode c_Lm_arm 84 = .ok (.invokevirtual 158, 3) := by decide +kernel
theorem d_Lm_arm_87 : decode c_Lm_arm 87 = .ok (.aload_n 0, 1) := by decide +kernel
theorem d_Lm_arm_88 : decode c_Lm_arm 88 = .ok (.getfield 19, 3) := by decide +kernel
theorem d_Lm_arm_91 : decode c_Lm_arm 91 = .ok (.getfield 161, 3) := by decide +kernel
theorem d_Lm_arm_94 : decode c_Lm_arm 94 = .ok (.iconst 1, 1) := by decide +kernel
theorem d_Lm_arm_95 : decode c_Lm_arm 95 = .ok (.isub, 1) := by decide +kernel
theorem d_Lm_arm_96 : decode c_Lm_arm 96 = .ok (.ireturn, 1) := by decide +kernel
set_option maxRecDepth 20000 in
theorem w_Lm_arm_61 {X : HX} {ad : Nat → Nat} {I : HI} {J : HJ} {N : HN} {r : HI × HJ × HN × Int32} {a0 : Nat} {p1 : Int32} {p2 : Int32} {p3 : Int32} {x4 : Int32} {s0 : Int32} (C : Cx X c_Lm_arm RX10 6 (some .int) rm_Lm_arm) (ha0 : gk Tc nC a0 (0, 10))
    (h : Lm_arm_61 a0 p1 p2 p3 I J N x4 s0 = some r) : G Tc X ad nC 0 0 I J N (gE X Tc ad nC (r.1, r.2.1, r.2.2.1, fun _ => some (.int r.2.2.2))) 61 6 [(0, .ref (ad a0)), (1, .int p1), (2, .int p2), (3, .int p3), (4, .int x4)] [.int s0] := by
  refine g_istore (pc := 61) (lv' := [(5, .int s0), (0, .ref (ad a0)), (1, .int p1), (2, .int p2), (3, .int p3), (4, .int x4)]) C d_Lm_arm_61 (by decide) rfl ?_
  refine g_aload_n (pc := 63) C d_Lm_arm_63 rfl 1 rfl ?_
  obtain ⟨b1, hnb1, hb1, h⟩ := o_rq h
  refine g_get (pc := 64) (k := 1) (v := va_rf ((N a0 1).map ad)) C gcX10 inX10 (by decide) fl_Lm_19 ha0 rfl d_Lm_arm_64 ?_
  refine g_top (g_rf hnb1) ?_
  refine g_iload_n (pc := 67) C d_Lm_arm_67 rfl 2 rfl ?_
  refine g_iload_n (pc := 68) C d_Lm_arm_68 rfl 3 rfl ?_
  refine g_iload (pc := 69) C d_Lm_arm_69 5 rfl ?_
  refine g_iload_n (pc := 71) C d_Lm_arm_71 rfl 4 rfl ?_
  refine g_iload (pc := 72) C d_Lm_arm_72 0 rfl ?_
  obtain ⟨I2, r3, hc4, h⟩ := o_bn2 h
  refine g_V (pc := 74) (rest := []) C (k_La_add (xl X) hb1 hc4) sm_La_add ml_Lm_154 im_La_add se_La_add gcX3 rfl hb1 ⟨rfl, rfl, Nat.le_of_ble_eq_true rfl, Nat.le_of_ble_eq_true rfl⟩ ⟨Nat.zero_le _, Nat.zero_le _⟩ rfl rfl (Nat.le_of_ble_eq_true rfl) d_Lm_arm_74 [.int r3] rfl ?_
  refine g_if_ne (pc := 77) C 83 d_Lm_arm_77 rfl (fun e5 => ?_) (fun e5 => ?_)
  · have h := o_neg e5 h
    refine g_aload_n (pc := 83) C d_Lm_arm_83 rfl 1 rfl ?_
    obtain ⟨I6, J7, N8, hc9, h⟩ := o_bn3 h
    refine g_V (pc := 84) (rest := []) C (k_Lm_ladderChanged (xl X) ha0 hc9) sm_Lm_ladderChanged ml_Lm_158 im_Lm_ladderChanged se_Lm_ladderChanged gcX10 rfl ha0 ⟨rfl, rfl, Nat.le_of_ble_eq_true rfl, Nat.le_of_ble_eq_true rfl⟩ ⟨Nat.zero_le _, Nat.zero_le _⟩ rfl rfl (Nat.le_of_ble_eq_true rfl) d_Lm_arm_84 [] rfl ?_
    refine g_aload_n (pc := 87) C d_Lm_arm_87 rfl 1 rfl ?_
    obtain ⟨b10, hnb10, hb10, h⟩ := o_rq h
    refine g_get (pc := 88) (k := 1) (v := va_rf ((N8 a0 1).map ad)) C gcX10 inX10 (by decide) fl_Lm_19 ha0 rfl d_Lm_arm_88 ?_
    refine g_top (g_rf hnb10) ?_
    refine g_getN (pc := 91) (k := 1) (v := .int (I6 b10 1)) C gcX3 inX3 (by decide) fl_Lm_161 hb10 rfl d_Lm_arm_91 ?_
    refine g_iconst (pc := 94) C (1 : Int32) d_Lm_arm_94 (by decide) ?_
    refine g_isub (pc := 95) C d_Lm_arm_95 ?_
    obtain rfl := o_ret h
    exact g_iret (pc := 96) C d_Lm_arm_96
  · have h := o_pos e5 h
    refine g_bipush (pc := 80) C (-4 : Int32) d_Lm_arm_80 (by decide) ?_
    obtain rfl := o_ret h
    exact g_iret (pc := 82) C d_Lm_arm_82
set_option maxRecDepth 20000 in
theorem w_Lm_arm_50 {X : HX} {ad : Nat → Nat} {I : HI} {J : HJ} {N : HN} {r : HI × HJ × HN × Int32} {a0 : Nat} {p1 : Int32} {p2 : Int32} {p3 : Int32} {s0 : Int32} (C : Cx X c_Lm_arm RX10 6 (some .int) rm_Lm_arm) (ha0 : gk Tc nC a0 (0, 10))
    (h : Lm_arm_50 a0 p1 p2 p3 I J N s0 = some r) : G Tc X ad nC 0 0 I J N (gE X Tc ad nC (r.1, r.2.1, r.2.2.1, fun _ => some (.int r.2.2.2))) 50 6 [(0, .ref (ad a0)), (1, .int p1), (2, .int p2), (3, .int p3)] [.int s0] := by
  refine g_istore (pc := 50) (lv' := [(4, .int s0), (0, .ref (ad a0)), (1, .int p1), (2, .int p2), (3, .int p3)]) C d_Lm_arm_50 (by decide) rfl ?_
  refine g_iload_n (pc := 52) C d_Lm_arm_52 rfl 4 rfl ?_
  refine g_if_ne (pc := 53) C 60 d_Lm_arm_53 rfl (fun e1 => ?_) (fun e1 => ?_)
  · have h := o_neg e1 h
    refine g_iconst (pc := 60) C (1 : Int32) d_Lm_arm_60 (by decide) ?_
    refine g_lv [1, 2, 3, 4, 0] rfl ?_
    exact w_Lm_arm_61 C ha0 h
  · have h := o_pos e1 h
    refine g_iconst (pc := 56) C (0 : Int32) d_Lm_arm_56 (by decide) ?_
    refine g_goto (pc := 57) C 61 d_Lm_arm_57 rfl ?_
    refine g_lv [1, 2, 3, 4, 0] rfl ?_
    exact w_Lm_arm_61 C ha0 h
set_option maxRecDepth 20000 in
theorem w_Lm_arm_41 {X : HX} {ad : Nat → Nat} {I : HI} {J : HJ} {N : HN} {r : HI × HJ × HN × Int32} {a0 : Nat} {p1 : Int32} {p2 : Int32} {p3 : Int32} (C : Cx X c_Lm_arm RX10 6 (some .int) rm_Lm_arm) (ha0 : gk Tc nC a0 (0, 10))
    (h : Lm_arm_41 a0 p1 p2 p3 I J N = some r) : G Tc X ad nC 0 0 I J N (gE X Tc ad nC (r.1, r.2.1, r.2.2.1, fun _ => some (.int r.2.2.2))) 41 6 [(0, .ref (ad a0)), (1, .int p1), (2, .int p2), (3, .int p3)] [] := by
  refine g_iload_n (pc := 41) C d_Lm_arm_41 rfl 2 rfl ?_
  refine g_if_ne (pc := 42) C 49 d_Lm_arm_42 rfl (fun e1 => ?_) (fun e1 => ?_)
  · have h := o_neg e1 h
    refine g_iconst (pc := 49) C (1 : Int32) d_Lm_arm_49 (by decide) ?_
    refine g_lv [0, 1, 2, 3] rfl ?_
    exact w_Lm_arm_50 C ha0 h
  · have h := o_pos e1 h
    refine g_iconst (pc := 45) C (0 : Int32) d_Lm_arm_45 (by decide) ?_
    refine g_goto (pc := 46) C 50 d_Lm_arm_46 rfl ?_
    refine g_lv [0, 1, 2, 3] rfl ?_
    exact w_Lm_arm_50 C ha0 h
set_option maxRecDepth 20000 in
theorem w_Lm_arm_0 {X : HX} {ad : Nat → Nat} {I : HI} {J : HJ} {N : HN} {r : HI × HJ × HN × Int32} {a0 : Nat} {p1 : Int32} {p2 : Int32} {p3 : Int32} (C : Cx X c_Lm_arm RX10 6 (some .int) rm_Lm_arm) (ha0 : gk Tc nC a0 (0, 10))
    (h : Lm_arm_0 a0 p1 p2 p3 I J N = some r) : G Tc X ad nC 0 0 I J N (gE X Tc ad nC (r.1, r.2.1, r.2.2.1, fun _ => some (.int r.2.2.2))) 0 6 [(0, .ref (ad a0)), (1, .int p1), (2, .int p2), (3, .int p3)] [] := by
  refine g_iload_n (pc := 0) C d_Lm_arm_0 rfl 1 rfl ?_
  obtain ⟨r1, hc2, h⟩ := o_bn1 h
  refine g_S (pc := 1) (rest := []) C (k_Lm_isPlace (xl X)  hc2) sm_Lm_isPlace ml_Lm_69 st_Lm_isPlace ⟨rfl, rfl, Nat.le_of_ble_eq_true rfl, Nat.le_of_ble_eq_true rfl⟩ ⟨Nat.zero_le _, Nat.zero_le _⟩ rfl rfl (Nat.le_of_ble_eq_true rfl) d_Lm_arm_1 [.int r1] rfl ?_
  refine g_if_eq (pc := 4) C 27 d_Lm_arm_4 rfl (fun e3 => ?_) (fun e3 => ?_)
  · have h := o_pos e3 h
    refine g_bipush (pc := 27) C (-2 : Int32) d_Lm_arm_27 (by decide) ?_
    obtain rfl := o_ret h
    exact g_iret (pc := 29) C d_Lm_arm_29
  · have h := o_neg e3 h
    refine g_iload_n (pc := 7) C d_Lm_arm_7 rfl 2 rfl ?_
    refine g_if_lt (pc := 8) C 27 d_Lm_arm_8 rfl (fun e4 => ?_) (fun e4 => ?_)
    · have h := o_pos e4 h
      refine g_bipush (pc := 27) C (-2 : Int32) d_Lm_arm_27 (by decide) ?_
      obtain rfl := o_ret h
      exact g_iret (pc := 29) C d_Lm_arm_29
    · have h := o_neg e4 h
      refine g_iload_n (pc := 11) C d_Lm_arm_11 rfl 2 rfl ?_
      refine g_bipush (pc := 12) C (9 : Int32) d_Lm_arm_12 (by decide) ?_
      refine g_icmp_gt (pc := 14) C 27 d_Lm_arm_14 rfl (fun e5 => ?_) (fun e5 => ?_)
      · have h := o_pos e5 h
        refine g_bipush (pc := 27) C (-2 : Int32) d_Lm_arm_27 (by decide) ?_
        obtain rfl := o_ret h
        exact g_iret (pc := 29) C d_Lm_arm_29
      · have h := o_neg e5 h
        refine g_iload_n (pc := 17) C d_Lm_arm_17 rfl 3 rfl ?_
        refine g_if_lt (pc := 18) C 27 d_Lm_arm_18 rfl (fun e6 => ?_) (fun e6 => ?_)
        · have h := o_pos e6 h
          refine g_bipush (pc := 27) C (-2 : Int32) d_Lm_arm_27 (by decide) ?_
          obtain rfl := o_ret h
          exact g_iret (pc := 29) C d_Lm_arm_29
        · have h := o_neg e6 h
          refine g_iload_n (pc := 21) C d_Lm_arm_21 rfl 3 rfl ?_
          refine g_bipush (pc := 22) C (9 : Int32) d_Lm_arm_22 (by decide) ?_
          refine g_icmp_le (pc := 24) C 30 d_Lm_arm_24 rfl (fun e7 => ?_) (fun e7 => ?_)
          · have h := o_pos e7 h
            refine g_iload_n (pc := 30) C d_Lm_arm_30 rfl 2 rfl ?_
            refine g_if_ne (pc := 31) C 41 d_Lm_arm_31 rfl (fun e8 => ?_) (fun e8 => ?_)
            · have h := o_neg e8 h
              refine g_lv [0, 1, 2, 3] rfl ?_
              exact w_Lm_arm_41 C ha0 h
            · have h := o_pos e8 h
              refine g_iload_n (pc := 34) C d_Lm_arm_34 rfl 3 rfl ?_
              refine g_if_ne (pc := 35) C 41 d_Lm_arm_35 rfl (fun e9 => ?_) (fun e9 => ?_)
              · have h := o_neg e9 h
                refine g_lv [0, 1, 2, 3] rfl ?_
                exact w_Lm_arm_41 C ha0 h
              · have h := o_pos e9 h
                refine g_bipush (pc := 38) C (-2 : Int32) d_Lm_arm_38 (by decide) ?_
                obtain rfl := o_ret h
                exact g_iret (pc := 40) C d_Lm_arm_40
          · have h := o_neg e7 h
            refine g_bipush (pc := 27) C (-2 : Int32) d_Lm_arm_27 (by decide) ?_
            obtain rfl := o_ret h
            exact g_iret (pc := 29) C d_Lm_arm_29
set_option maxRecDepth 20000 in
theorem k_Lm_arm (l : Launch) {I : HI} {J : HJ} {N : HN} {a0 : Nat} {p1 : Int32} {p2 : Int32} {p3 : Int32} {r : HI × HJ × HN × Int32} (ha0 : gk Tc nC a0 (0, 10)) (h : Lm_arm a0 p1 p2 p3 I J N = some r) : gM l y_Lm_arm c_Lm_arm 6 (some .int) rm_Lm_arm Tc nC I J N (fun ad => [.ref (ad a0), .int p1, .int p2, .int p3]) (r.1, r.2.1, r.2.2.1, fun _ => some (.int r.2.2.2)) :=
  g_meth (lv := fun ad => [(0, .ref (ad a0)), (1, .int p1), (2, .int p2), (3, .int p3)]) (by decide) (fun _ => Nat.le_of_ble_eq_true rfl) (fun _ => rfl) (fun X ad C => g_lv [0, 1, 2, 3] rfl (w_Lm_arm_0 C ha0 h))
theorem d_Lm_back_0 : decode c_Lm_back 0 = .ok (.aload_n 0, 1) := by decide +kernel
theorem d_Lm_back_1 : decode c_Lm_back 1 = .ok (.getfield 19, 3) := by decide +kernel
theorem d_Lm_back_4 : decode c_Lm_back 4 = .ok (.getfield 161, 3) := by decide +kernel
theorem d_Lm_back_7 : decode c_Lm_back 7 = .ok (.ifCond .ne 6, 3) := by decide +kernel
theorem d_Lm_back_10 : decode c_Lm_back 10 = .ok (.bipush (-3), 2) := by decide +kernel
theorem d_Lm_back_12 : decode c_Lm_back 12 = .ok (.ireturn, 1) := by decide +kernel
theorem d_Lm_back_13 : decode c_Lm_back 13 = .ok (.aload_n 0, 1) := by decide +kernel
theorem d_Lm_back_14 : decode c_Lm_back 14 = .ok (.getfield 19, 3) := by decide +kernel
theorem d_Lm_back_17 : decode c_Lm_back 17 = .ok (.invokevirtual 164, 3) := by decide +kernel
theorem d_Lm_back_20 : decode c_Lm_back 20 = .ok (.aload_n 0, 1) := by decide +kernel
theorem d_Lm_back_21 : decode c_Lm_back 21 = .ok (.invokevirtual 158, 3) := by decide +kernel
theorem d_Lm_back_24 : decode c_Lm_back 24 = .ok (.aload_n 0, 1) := by decide +kernel
theorem d_Lm_back_25 : decode c_Lm_back 25 = .ok (.getfield 19, 3) := by decide +kernel
theorem d_Lm_back_28 : decode c_Lm_back 28 = .ok (.getfield 161, 3) := by decide +kernel
theorem d_Lm_back_31 : decode c_Lm_back 31 = .ok (.ireturn, 1) := by decide +kernel
set_option maxRecDepth 20000 in
theorem w_Lm_back_0 {X : HX} {ad : Nat → Nat} {I : HI} {J : HJ} {N : HN} {r : HI × HJ × HN × Int32} {a0 : Nat} (C : Cx X c_Lm_back RX10 1 (some .int) rm_Lm_back) (ha0 : gk Tc nC a0 (0, 10))
    (h : Lm_back_0 a0 I J N = some r) : G Tc X ad nC 0 0 I J N (gE X Tc ad nC (r.1, r.2.1, r.2.2.1, fun _ => some (.int r.2.2.2))) 0 1 [(0, .ref (ad a0))] [] := by
  refine g_aload_n (pc := 0) C d_Lm_back_0 rfl 0 rfl ?_
  obtain ⟨b1, hnb1, hb1, h⟩ := o_rq h
  refine g_get (pc := 1) (k := 1) (v := va_rf ((N a0 1).map ad)) C gcX10 inX10 (by decide) fl_Lm_19 ha0 rfl d_Lm_back_1 ?_
  refine g_top (g_rf hnb1) ?_
  refine g_getN (pc := 4) (k := 1) (v := .int (I b1 1)) C gcX3 inX3 (by decide) fl_Lm_161 hb1 rfl d_Lm_back_4 ?_
  refine g_if_ne (pc := 7) C 13 d_Lm_back_7 rfl (fun e2 => ?_) (fun e2 => ?_)
  · have h := o_neg e2 h
    refine g_aload_n (pc := 13) C d_Lm_back_13 rfl 0 rfl ?_
    obtain ⟨b3, hnb3, hb3, h⟩ := o_rq h
    refine g_get (pc := 14) (k := 1) (v := va_rf ((N a0 1).map ad)) C gcX10 inX10 (by decide) fl_Lm_19 ha0 rfl d_Lm_back_14 ?_
    refine g_top (g_rf hnb3) ?_
    obtain ⟨I4, hc5, h⟩ := o_bn1 h
    refine g_V (pc := 17) (rest := []) C (k_La_dropLast (xl X) hb3 hc5) sm_La_dropLast ml_Lm_164 im_La_dropLast se_La_dropLast gcX3 rfl hb3 ⟨rfl, rfl, Nat.le_of_ble_eq_true rfl, Nat.le_of_ble_eq_true rfl⟩ ⟨Nat.zero_le _, Nat.zero_le _⟩ rfl rfl (Nat.le_of_ble_eq_true rfl) d_Lm_back_17 [] rfl ?_
    refine g_aload_n (pc := 20) C d_Lm_back_20 rfl 0 rfl ?_
    obtain ⟨I6, J7, N8, hc9, h⟩ := o_bn3 h
    refine g_V (pc := 21) (rest := []) C (k_Lm_ladderChanged (xl X) ha0 hc9) sm_Lm_ladderChanged ml_Lm_158 im_Lm_ladderChanged se_Lm_ladderChanged gcX10 rfl ha0 ⟨rfl, rfl, Nat.le_of_ble_eq_true rfl, Nat.le_of_ble_eq_true rfl⟩ ⟨Nat.zero_le _, Nat.zero_le _⟩ rfl rfl (Nat.le_of_ble_eq_true rfl) d_Lm_back_21 [] rfl ?_
    refine g_aload_n (pc := 24) C d_Lm_back_24 rfl 0 rfl ?_
    obtain ⟨b10, hnb10, hb10, h⟩ := o_rq h
    refine g_get (pc := 25) (k := 1) (v := va_rf ((N8 a0 1).map ad)) C gcX10 inX10 (by decide) fl_Lm_19 ha0 rfl d_Lm_back_25 ?_
    refine g_top (g_rf hnb10) ?_
    refine g_getN (pc := 28) (k := 1) (v := .int (I6 b10 1)) C gcX3 inX3 (by decide) fl_Lm_161 hb10 rfl d_Lm_back_28 ?_
    obtain rfl := o_ret h
    exact g_iret (pc := 31) C d_Lm_back_31
  · have h := o_pos e2 h
    refine g_bipush (pc := 10) C (-3 : Int32) d_Lm_back_10 (by decide) ?_
    obtain rfl := o_ret h
    exact g_iret (pc := 12) C d_Lm_back_12
set_option maxRecDepth 20000 in
theorem k_Lm_back (l : Launch) {I : HI} {J : HJ} {N : HN} {a0 : Nat} {r : HI × HJ × HN × Int32} (ha0 : gk Tc nC a0 (0, 10)) (h : Lm_back a0 I J N = some r) : gM l y_Lm_back c_Lm_back 1 (some .int) rm_Lm_back Tc nC I J N (fun ad => [.ref (ad a0)]) (r.1, r.2.1, r.2.2.1, fun _ => some (.int r.2.2.2)) :=
  g_meth (lv := fun ad => [(0, .ref (ad a0))]) (by decide) (fun _ => Nat.le_of_ble_eq_true rfl) (fun _ => rfl) (fun X ad C => g_lv [0] rfl (w_Lm_back_0 C ha0 h))
theorem d_Lm_would_0 : decode c_Lm_would 0 = .ok (.iload_n 1, 1) := by decide +kernel
theorem d_Lm_would_1 : decode c_Lm_would 1 = .ok (.ifCond .lt 8, 3) := by decide +kernel
theorem d_Lm_would_4 : decode c_Lm_would 4 = .ok (.iload_n 1, 1) := by decide +kernel
theorem d_Lm_would_5 : decode c_Lm_would 5 = .ok (.iconst 4, 1) := by decide +kernel
theorem d_Lm_would_6 : decode c_Lm_would 6 = .ok (.if_icmp .lt 6, 3) := by decide +kernel
theorem d_Lm_would_9 : decode c_Lm_would 9 = .ok (.bipush (-2), 2) := by decide +kernel
theorem d_Lm_would_11 : decode c_Lm_would 11 = .ok (.ireturn, 1) := by decide +kernel
theorem d_Lm_would_12 : decode c_Lm_would 12 = .ok (.aload_n 0, 1) := by decide +kernel
theorem d_Lm_would_13 : decode c_Lm_would 13 = .ok (.getfield 12, 3) := by decide +kernel
theorem d_Lm_would_16 : decode c_Lm_would 16 = .ok (.invokevirtual 98, 3) := by decide +kernel
theorem d_Lm_would_19 : decode c_Lm_would 19 = .ok (.ifCond .ne 6, 3) := by decide +kernel
theorem d_Lm_would_22 : decode c_Lm_would 22 = .ok (.bipush (-3), 2) := by decide +kernel
theorem d_Lm_would_24 : decode c_Lm_would 24 = .ok (.ireturn, 1) := by decide +kernel
theorem d_Lm_would_25 : decode c_Lm_would 25 = .ok (.iload_n 1, 1) := by decide +kernel
theorem d_Lm_would_26 : decode c_Lm_would 26 = .ok (.iconst 1, 1) := by decide +kernel
theorem d_Lm_would_27 : decode c_Lm_would 27 = .ok (.if_icmp .gt 24, 3) := by decide +kernel
theorem d_Lm_would_30 : decode c_Lm_would 30 = .ok (.aload_n 0, 1) := by decide +kernel
theorem d_Lm_would_31 : decode c_Lm_would 31 = .ok (.getfield 33, 3) := by decide +kernel
theorem d_Lm_would_34 : decode c_Lm_would 34 = .ok (.aload_n 0, 1) := by decide +kernel
theorem d_Lm_would_35 : decode c_Lm_would 35 = .ok (.getfield 12, 3) := by decide +kernel
theorem d_Lm_would_38 : decode c_Lm_would 38 = .ok (.iload_n 1, 1) := by decide +kernel
theorem d_Lm_would_39 : decode c_Lm_would 39 = .ok (.ifCond .ne 7, 3) := by decide +kernel
theorem d_Lm_would_42 : decode c_Lm_would 42 = .ok (.iconst 1, 1) := by decide +kernel
theorem d_Lm_would_43 : decode c_Lm_would 43 = .ok (.goto 4, 3) := by decide +kernel
theorem d_Lm_would_46 : decode c_Lm_would 46 = .ok (.iconst 0, 1) := by decide +kernel
theorem d_Lm_would_47 : decode c_Lm_would 47 = .ok (.invokevirtual 177, 3) := by decide +kernel
theorem d_Lm_would_50 : decode c_Lm_would 50 = .ok (.ireturn, 1) := by decide +kernel
theorem d_Lm_would_51 : decode c_Lm_would 51 = .ok (.aload_n 0, 1) := by decide +kernel
theorem d_Lm_would_52 : decode c_Lm_would 52 = .ok (.getfield 33, 3) := by decide +kernel
theorem d_Lm_would_55 : decode c_Lm_would 55 = .ok (.aload_n 0, 1) := by decide +kernel
theorem d_Lm_would_56 : decode c_Lm_would 56 = .ok (.getfield 12, 3) := by decide +kernel
theorem d_Lm_would_59 : decode c_Lm_would 59 = .ok (.iload_n 1, 1) := by decide +kernel
theorem d_Lm_would_60 : decode c_Lm_would 60 = .ok (.iconst 2, 1) := by decide +kernel
theorem d_Lm_would_61 : decode c_Lm_would 61 = .ok (.if_icmp .ne 7, 3) := by decide +kernel
theorem d_Lm_would_64 : decode c_Lm_would 64 = .ok (.iconst 0, 1) := by decide +kernel
theorem d_Lm_would_65 : decode c_Lm_would 65 = .ok (.goto 4, 3) := by decide +kernel
theorem d_Lm_would_68 : decode c_Lm_would 68 = .ok (.iconst 1, 1) := by decide +kernel
theorem d_Lm_would_69 : decode c_Lm_would 69 = .ok (.invokevirtual 181, 3) := by decide +kernel
theorem d_Lm_would_72 : decode c_Lm_would 72 = .ok (.ireturn, 1) := by decide +kernel
set_option maxRecDepth 20000 in
theorem w_Lm_would_69 {X : HX} {ad : Nat → Nat} {I : HI} {J : HJ} {N : HN} {r : HI × HJ × HN × Int32} {a0 : Nat} {p1 : Int32} {bs0 : Nat} {bs1 : Nat} {s2 : Int32} (C : Cx X c_Lm_would RX10 2 (some .int) rm_Lm_would) (ha0 : gk Tc nC a0 (0, 10)) (hbs0 : gk Tc nC bs0 (0, 9)) (hbs1 : gk Tc nC bs1 (0, 5))
    (h : Lm_would_69 a0 p1 I J N bs0 bs1 s2 = some r) : G Tc X ad nC 0 0 I J N (gE X Tc ad nC (r.1, r.2.1, r.2.2.1, fun _ => some (.int r.2.2.2))) 69 2 [] [.int s2, .ref (ad bs1), .ref (ad bs0)] := by
  obtain ⟨I1, J2, N3, r4, hc5, h⟩ := o_bn4 h
  refine g_V (pc := 69) (rest := []) C (k_Un_divideByPoles (xl X) hbs0 hbs1 hc5) sm_Un_divideByPoles ml_Lm_181 im_Un_divideByPoles se_Un_divideByPoles gcX9 rfl hbs0 ⟨rfl, rfl, Nat.le_of_ble_eq_true rfl, Nat.le_of_ble_eq_true rfl⟩ ⟨Nat.zero_le _, Nat.zero_le _⟩ rfl rfl (Nat.le_of_ble_eq_true rfl) d_Lm_would_69 [.int r4] rfl ?_
  obtain rfl := o_ret h
  exact g_iret (pc := 72) C d_Lm_would_72
set_option maxRecDepth 20000 in
theorem w_Lm_would_47 {X : HX} {ad : Nat → Nat} {I : HI} {J : HJ} {N : HN} {r : HI × HJ × HN × Int32} {a0 : Nat} {p1 : Int32} {bs0 : Nat} {bs1 : Nat} {s2 : Int32} (C : Cx X c_Lm_would RX10 2 (some .int) rm_Lm_would) (ha0 : gk Tc nC a0 (0, 10)) (hbs0 : gk Tc nC bs0 (0, 9)) (hbs1 : gk Tc nC bs1 (0, 5))
    (h : Lm_would_47 a0 p1 I J N bs0 bs1 s2 = some r) : G Tc X ad nC 0 0 I J N (gE X Tc ad nC (r.1, r.2.1, r.2.2.1, fun _ => some (.int r.2.2.2))) 47 2 [] [.int s2, .ref (ad bs1), .ref (ad bs0)] := by
  obtain ⟨I1, J2, N3, r4, hc5, h⟩ := o_bn4 h
  refine g_V (pc := 47) (rest := []) C (k_Un_divideOn (xl X) hbs0 hbs1 hc5) sm_Un_divideOn ml_Lm_177 im_Un_divideOn se_Un_divideOn gcX9 rfl hbs0 ⟨rfl, rfl, Nat.le_of_ble_eq_true rfl, Nat.le_of_ble_eq_true rfl⟩ ⟨Nat.zero_le _, Nat.zero_le _⟩ rfl rfl (Nat.le_of_ble_eq_true rfl) d_Lm_would_47 [.int r4] rfl ?_
  obtain rfl := o_ret h
  exact g_iret (pc := 50) C d_Lm_would_50
set_option maxRecDepth 20000 in
theorem w_Lm_would_0 {X : HX} {ad : Nat → Nat} {I : HI} {J : HJ} {N : HN} {r : HI × HJ × HN × Int32} {a0 : Nat} {p1 : Int32} (C : Cx X c_Lm_would RX10 2 (some .int) rm_Lm_would) (ha0 : gk Tc nC a0 (0, 10))
    (h : Lm_would_0 a0 p1 I J N = some r) : G Tc X ad nC 0 0 I J N (gE X Tc ad nC (r.1, r.2.1, r.2.2.1, fun _ => some (.int r.2.2.2))) 0 2 [(0, .ref (ad a0)), (1, .int p1)] [] := by
  refine g_iload_n (pc := 0) C d_Lm_would_0 rfl 1 rfl ?_
  refine g_if_lt (pc := 1) C 9 d_Lm_would_1 rfl (fun e1 => ?_) (fun e1 => ?_)
  · have h := o_pos e1 h
    refine g_bipush (pc := 9) C (-2 : Int32) d_Lm_would_9 (by decide) ?_
    obtain rfl := o_ret h
    exact g_iret (pc := 11) C d_Lm_would_11
  · have h := o_neg e1 h
    refine g_iload_n (pc := 4) C d_Lm_would_4 rfl 1 rfl ?_
    refine g_iconst (pc := 5) C (4 : Int32) d_Lm_would_5 (by decide) ?_
    refine g_icmp_lt (pc := 6) C 12 d_Lm_would_6 rfl (fun e2 => ?_) (fun e2 => ?_)
    · have h := o_pos e2 h
      refine g_aload_n (pc := 12) C d_Lm_would_12 rfl 0 rfl ?_
      obtain ⟨b3, hnb3, hb3, h⟩ := o_rq h
      refine g_get (pc := 13) (k := 0) (v := va_rf ((N a0 0).map ad)) C gcX10 inX10 (by decide) fl_Lm_12 ha0 rfl d_Lm_would_13 ?_
      refine g_top (g_rf hnb3) ?_
      obtain ⟨r4, hc5, h⟩ := o_bn1 h
      refine g_V (pc := 16) (rest := []) C (k_Pa_isLawful (xl X) hb3 hc5) sm_Pa_isLawful ml_Lm_98 im_Pa_isLawful se_Pa_isLawful gcX5 rfl hb3 ⟨rfl, rfl, Nat.le_of_ble_eq_true rfl, Nat.le_of_ble_eq_true rfl⟩ ⟨Nat.zero_le _, Nat.zero_le _⟩ rfl rfl (Nat.le_of_ble_eq_true rfl) d_Lm_would_16 [.int r4] rfl ?_
      refine g_if_ne (pc := 19) C 25 d_Lm_would_19 rfl (fun e6 => ?_) (fun e6 => ?_)
      · have h := o_neg e6 h
        refine g_iload_n (pc := 25) C d_Lm_would_25 rfl 1 rfl ?_
        refine g_iconst (pc := 26) C (1 : Int32) d_Lm_would_26 (by decide) ?_
        refine g_icmp_gt (pc := 27) C 51 d_Lm_would_27 rfl (fun e7 => ?_) (fun e7 => ?_)
        · have h := o_pos e7 h
          refine g_aload_n (pc := 51) C d_Lm_would_51 rfl 0 rfl ?_
          obtain ⟨b8, hnb8, hb8, h⟩ := o_rq h
          refine g_get (pc := 52) (k := 3) (v := va_rf ((N a0 3).map ad)) C gcX10 inX10 (by decide) fl_Lm_33 ha0 rfl d_Lm_would_52 ?_
          refine g_top (g_rf hnb8) ?_
          refine g_aload_n (pc := 55) C d_Lm_would_55 rfl 0 rfl ?_
          obtain ⟨b9, hnb9, hb9, h⟩ := o_rq h
          refine g_get (pc := 56) (k := 0) (v := va_rf ((N a0 0).map ad)) C gcX10 inX10 (by decide) fl_Lm_12 ha0 rfl d_Lm_would_56 ?_
          refine g_top (g_rf hnb9) ?_
          refine g_iload_n (pc := 59) C d_Lm_would_59 rfl 1 rfl ?_
          refine g_iconst (pc := 60) C (2 : Int32) d_Lm_would_60 (by decide) ?_
          refine g_icmp_ne (pc := 61) C 68 d_Lm_would_61 rfl (fun e10 => ?_) (fun e10 => ?_)
          · have h := o_neg e10 h
            refine g_iconst (pc := 68) C (1 : Int32) d_Lm_would_68 (by decide) ?_
            refine g_lv [] rfl ?_
            exact w_Lm_would_69 C ha0 hb8 hb9 h
          · have h := o_pos e10 h
            refine g_iconst (pc := 64) C (0 : Int32) d_Lm_would_64 (by decide) ?_
            refine g_goto (pc := 65) C 69 d_Lm_would_65 rfl ?_
            refine g_lv [] rfl ?_
            exact w_Lm_would_69 C ha0 hb8 hb9 h
        · have h := o_neg e7 h
          refine g_aload_n (pc := 30) C d_Lm_would_30 rfl 0 rfl ?_
          obtain ⟨b11, hnb11, hb11, h⟩ := o_rq h
          refine g_get (pc := 31) (k := 3) (v := va_rf ((N a0 3).map ad)) C gcX10 inX10 (by decide) fl_Lm_33 ha0 rfl d_Lm_would_31 ?_
          refine g_top (g_rf hnb11) ?_
          refine g_aload_n (pc := 34) C d_Lm_would_34 rfl 0 rfl ?_
          obtain ⟨b12, hnb12, hb12, h⟩ := o_rq h
          refine g_get (pc := 35) (k := 0) (v := va_rf ((N a0 0).map ad)) C gcX10 inX10 (by decide) fl_Lm_12 ha0 rfl d_Lm_would_35 ?_
          refine g_top (g_rf hnb12) ?_
          refine g_iload_n (pc := 38) C d_Lm_would_38 rfl 1 rfl ?_
          refine g_if_ne (pc := 39) C 46 d_Lm_would_39 rfl (fun e13 => ?_) (fun e13 => ?_)
          · have h := o_neg e13 h
            refine g_iconst (pc := 46) C (0 : Int32) d_Lm_would_46 (by decide) ?_
            refine g_lv [] rfl ?_
            exact w_Lm_would_47 C ha0 hb11 hb12 h
          · have h := o_pos e13 h
            refine g_iconst (pc := 42) C (1 : Int32) d_Lm_would_42 (by decide) ?_
            refine g_goto (pc := 43) C 47 d_Lm_would_43 rfl ?_
            refine g_lv [] rfl ?_
            exact w_Lm_would_47 C ha0 hb11 hb12 h
      · have h := o_pos e6 h
        refine g_bipush (pc := 22) C (-3 : Int32) d_Lm_would_22 (by decide) ?_
        obtain rfl := o_ret h
        exact g_iret (pc := 24) C d_Lm_would_24
    · have h := o_neg e2 h
      refine g_bipush (pc := 9) C (-2 : Int32) d_Lm_would_9 (by decide) ?_
      obtain rfl := o_ret h
      exact g_iret (pc := 11) C d_Lm_would_11
set_option maxRecDepth 20000 in
theorem k_Lm_would (l : Launch) {I : HI} {J : HJ} {N : HN} {a0 : Nat} {p1 : Int32} {r : HI × HJ × HN × Int32} (ha0 : gk Tc nC a0 (0, 10)) (h : Lm_would a0 p1 I J N = some r) : gM l y_Lm_would c_Lm_would 2 (some .int) rm_Lm_would Tc nC I J N (fun ad => [.ref (ad a0), .int p1]) (r.1, r.2.1, r.2.2.1, fun _ => some (.int r.2.2.2)) :=
  g_meth (lv := fun ad => [(0, .ref (ad a0)), (1, .int p1)]) (by decide) (fun _ => Nat.le_of_ble_eq_true rfl) (fun _ => rfl) (fun X ad C => g_lv [0, 1] rfl (w_Lm_would_0 C ha0 h))
theorem d_Lm_unfold_0 : decode c_Lm_unfold 0 = .ok (.aload_n 0, 1) := by decide +kernel
theorem d_Lm_unfold_1 : decode c_Lm_unfold 1 = .ok (.iload_n 1, 1) := by decide +kernel
theorem d_Lm_unfold_2 : decode c_Lm_unfold 2 = .ok (.invokevirtual 167, 3) := by decide +kernel
theorem d_Lm_unfold_5 : decode c_Lm_unfold 5 = .ok (.istore_n 2, 1) := by decide +kernel
theorem d_Lm_unfold_6 : decode c_Lm_unfold 6 = .ok (.iload_n 2, 1) := by decide +kernel
theorem d_Lm_unfold_7 : decode c_Lm_unfold 7 = .ok (.ifCond .lt 21, 3) := by decide +kernel
theorem d_Lm_unfold_10 : decode c_Lm_unfold 10 = .ok (.aload_n 0, 1) := by decide +kernel
theorem d_Lm_unfold_11 : decode c_Lm_unfold 11 = .ok (.getfield 19, 3) := by decide +kernel
theorem d_Lm_unfold_14 : decode c_Lm_unfold 14 = .ok (.aload_n 0, 1) := by decide +kernel
theorem d_Lm_unfold_15 : decode c_Lm_unfold 15 = .ok (.getfield 33, 3) := by decide +kernel
theorem d_Lm_unfold_18 : decode c_Lm_unfold 18 = .ok (.getfield 170, 3) := by decide +kernel
theorem d_Lm_unfold_21 : decode c_Lm_unfold 21 = .ok (.invokevirtual 173, 3) := by decide +kernel
theorem d_Lm_unfold_24 : decode c_Lm_unfold 24 = .ok (.aload_n 0, 1) := by decide +kernel
theorem d_Lm_unfold_25 : decode c_Lm_unfold 25 = .ok (.invokevirtual 158, 3) := by decide +kernel
theorem d_Lm_unfold_28 : decode c_Lm_unfold 28 = .ok (.iload_n 2, 1) := by decide +kernel
theorem d_Lm_unfold_29 : decode c_Lm_unfold 29 = .ok (.ireturn, 1) := by decide +kernel
set_option maxRecDepth 20000 in
theorem w_Lm_unfold_0 {X : HX} {ad : Nat → Nat} {I : HI} {J : HJ} {N : HN} {r : HI × HJ × HN × Int32} {a0 : Nat} {p1 : Int32} (C : Cx X c_Lm_unfold RX10 3 (some .int) rm_Lm_unfold) (ha0 : gk Tc nC a0 (0, 10))
    (h : Lm_unfold_0 a0 p1 I J N = some r) : G Tc X ad nC 0 0 I J N (gE X Tc ad nC (r.1, r.2.1, r.2.2.1, fun _ => some (.int r.2.2.2))) 0 3 [(0, .ref (ad a0)), (1, .int p1)] [] := by
  refine g_aload_n (pc := 0) C d_Lm_unfold_0 rfl 0 rfl ?_
  refine g_iload_n (pc := 1) C d_Lm_unfold_1 rfl 1 rfl ?_
  obtain ⟨I1, J2, N3, r4, hc5, h⟩ := o_bn4 h
  refine g_V (pc := 2) (rest := []) C (k_Lm_would (xl X) ha0 hc5) sm_Lm_would ml_Lm_167 im_Lm_would se_Lm_would gcX10 rfl ha0 ⟨rfl, rfl, Nat.le_of_ble_eq_true rfl, Nat.le_of_ble_eq_true rfl⟩ ⟨Nat.zero_le _, Nat.zero_le _⟩ rfl rfl (Nat.le_of_ble_eq_true rfl) d_Lm_unfold_2 [.int r4] rfl ?_
  refine g_istore_n (pc := 5) (lv' := [(2, .int r4), (0, .ref (ad a0)), (1, .int p1)]) C d_Lm_unfold_5 rfl (by decide) rfl ?_
  refine g_iload_n (pc := 6) C d_Lm_unfold_6 rfl 0 rfl ?_
  refine g_if_lt (pc := 7) C 28 d_Lm_unfold_7 rfl (fun e6 => ?_) (fun e6 => ?_)
  · have h := o_pos e6 h
    refine g_iload_n (pc := 28) C d_Lm_unfold_28 rfl 0 rfl ?_
    obtain rfl := o_ret h
    exact g_iret (pc := 29) C d_Lm_unfold_29
  · have h := o_neg e6 h
    refine g_aload_n (pc := 10) C d_Lm_unfold_10 rfl 1 rfl ?_
    obtain ⟨b7, hnb7, hb7, h⟩ := o_rq h
    refine g_get (pc := 11) (k := 1) (v := va_rf ((N3 a0 1).map ad)) C gcX10 inX10 (by decide) fl_Lm_19 ha0 rfl d_Lm_unfold_11 ?_
    refine g_top (g_rf hnb7) ?_
    refine g_aload_n (pc := 14) C d_Lm_unfold_14 rfl 1 rfl ?_
    obtain ⟨b8, hnb8, hb8, h⟩ := o_rq h
    refine g_get (pc := 15) (k := 3) (v := va_rf ((N3 a0 3).map ad)) C gcX10 inX10 (by decide) fl_Lm_33 ha0 rfl d_Lm_unfold_15 ?_
    refine g_top (g_rf hnb8) ?_
    obtain ⟨b9, hnb9, hb9, h⟩ := o_rq h
    refine g_getN (pc := 18) (k := 0) (v := va_rf ((N3 b8 0).map ad)) C gcX9 inX9 (by decide) fl_Lm_170 hb8 rfl d_Lm_unfold_18 ?_
    refine g_top (g_rf hnb9) ?_
    obtain ⟨I10, hc11, h⟩ := o_bn1 h
    refine g_V (pc := 21) (rest := []) C (k_La_load (xl X) hb7 hb9 hc11) sm_La_load ml_Lm_173 im_La_load se_La_load gcX3 rfl hb7 ⟨rfl, rfl, Nat.le_of_ble_eq_true rfl, Nat.le_of_ble_eq_true rfl⟩ ⟨Nat.zero_le _, Nat.zero_le _⟩ rfl rfl (Nat.le_of_ble_eq_true rfl) d_Lm_unfold_21 [] rfl ?_
    refine g_aload_n (pc := 24) C d_Lm_unfold_24 rfl 1 rfl ?_
    obtain ⟨I12, J13, N14, hc15, h⟩ := o_bn3 h
    refine g_V (pc := 25) (rest := []) C (k_Lm_ladderChanged (xl X) ha0 hc15) sm_Lm_ladderChanged ml_Lm_158 im_Lm_ladderChanged se_Lm_ladderChanged gcX10 rfl ha0 ⟨rfl, rfl, Nat.le_of_ble_eq_true rfl, Nat.le_of_ble_eq_true rfl⟩ ⟨Nat.zero_le _, Nat.zero_le _⟩ rfl rfl (Nat.le_of_ble_eq_true rfl) d_Lm_unfold_25 [] rfl ?_
    refine g_iload_n (pc := 28) C d_Lm_unfold_28 rfl 0 rfl ?_
    obtain rfl := o_ret h
    exact g_iret (pc := 29) C d_Lm_unfold_29
set_option maxRecDepth 20000 in
theorem k_Lm_unfold (l : Launch) {I : HI} {J : HJ} {N : HN} {a0 : Nat} {p1 : Int32} {r : HI × HJ × HN × Int32} (ha0 : gk Tc nC a0 (0, 10)) (h : Lm_unfold a0 p1 I J N = some r) : gM l y_Lm_unfold c_Lm_unfold 3 (some .int) rm_Lm_unfold Tc nC I J N (fun ad => [.ref (ad a0), .int p1]) (r.1, r.2.1, r.2.2.1, fun _ => some (.int r.2.2.2)) :=
  g_meth (lv := fun ad => [(0, .ref (ad a0)), (1, .int p1)]) (by decide) (fun _ => Nat.le_of_ble_eq_true rfl) (fun _ => rfl) (fun X ad C => g_lv [0, 1] rfl (w_Lm_unfold_0 C ha0 h))
theorem d_Lm_element_0 : decode c_Lm_element 0 = .ok (.iload_n 1, 1) := by decide +kernel
theorem d_Lm_element_1 : decode c_Lm_element 1 = .ok (.ifCond .lt 23, 3) := by decide +kernel
theorem d_Lm_element_4 : decode c_Lm_element 4 = .ok (.iload_n 1, 1) := by decide +kernel
theorem d_Lm_element_5 : decode c_Lm_element 5 = .ok (.aload_n 0, 1) := by decide +kernel
theorem d_Lm_element_6 : decode c_Lm_element 6 = .ok (.getfield 19, 3) := by decide +kernel
theorem d_Lm_element_9 : decode c_Lm_element 9 = .ok (.getfield 161, 3) := by decide +kernel
theorem d_Lm_element_12 : decode c_Lm_element 12 = .ok (.if_icmp .ge 12, 3) := by decide +kernel
theorem d_Lm_element_15 : decode c_Lm_element 15 = .ok (.iload_n 2, 1) := by decide +kernel
theorem d_Lm_element_16 : decode c_Lm_element 16 = .ok (.ifCond .lt 8, 3) := by decide +kernel
theorem d_Lm_element_19 : decode c_Lm_element 19 = .ok (.iload_n 2, 1) := by decide +kernel
theorem d_Lm_element_20 : decode c_Lm_element 20 = .ok (.iconst 5, 1) := by decide +kernel
theorem d_Lm_element_21 : decode c_Lm_element 21 = .ok (.if_icmp .lt 6, 3) := by decide +kernel
theorem d_Lm_element_24 : decode c_Lm_element 24 = .ok (.bipush (-2), 2) := by decide +kernel
theorem d_Lm_element_26 : decode c_Lm_element 26 = .ok (.ireturn, 1) := by decide +kernel
theorem d_Lm_element_27 : decode c_Lm_element 27 = .ok (.aload_n 0, 1) := by decide +kernel
theorem d_Lm_element_28 : decode c_Lm_element 28 = .ok (.getfield 19, 3) := by decide +kernel
theorem d_Lm_element_31 : decode c_Lm_element 31 = .ok (.iload_n 1, 1) := by decide +kernel
theorem d_Lm_element_32 : decode c_Lm_element 32 = .ok (.iload_n 2, 1) := by decide +kernel
theorem d_Lm_element_33 : decode c_Lm_element 33 = .ok (.invokevirtual 185, 3) := by decide +kernel
theorem d_Lm_element_36 : decode c_Lm_element 36 = .ok (.ireturn, 1) := by decide +kernel
set_option maxRecDepth 20000 in
theorem w_Lm_element_0 {X : HX} {ad : Nat → Nat} {I : HI} {J : HJ} {N : HN} {r : Int32} {a0 : Nat} {p1 : Int32} {p2 : Int32} (C : Cx X c_Lm_element RX10 3 (some .int) rm_Lm_element) (ha0 : gk Tc nC a0 (0, 10))
    (h : Lm_element_0 I N a0 p1 p2 = some r) : G Tc X ad nC 0 0 I J N (gE X Tc ad nC (I, J, N, fun _ => some (.int r))) 0 3 [(0, .ref (ad a0)), (1, .int p1), (2, .int p2)] [] := by
  refine g_iload_n (pc := 0) C d_Lm_element_0 rfl 1 rfl ?_
  refine g_if_lt (pc := 1) C 24 d_Lm_element_1 rfl (fun e1 => ?_) (fun e1 => ?_)
  · have h := o_pos e1 h
    refine g_bipush (pc := 24) C (-2 : Int32) d_Lm_element_24 (by decide) ?_
    obtain rfl := o_ret h
    exact g_iret (pc := 26) C d_Lm_element_26
  · have h := o_neg e1 h
    refine g_iload_n (pc := 4) C d_Lm_element_4 rfl 1 rfl ?_
    refine g_aload_n (pc := 5) C d_Lm_element_5 rfl 0 rfl ?_
    obtain ⟨b2, hnb2, hb2, h⟩ := o_rq h
    refine g_get (pc := 6) (k := 1) (v := va_rf ((N a0 1).map ad)) C gcX10 inX10 (by decide) fl_Lm_19 ha0 rfl d_Lm_element_6 ?_
    refine g_top (g_rf hnb2) ?_
    refine g_getN (pc := 9) (k := 1) (v := .int (I b2 1)) C gcX3 inX3 (by decide) fl_Lm_161 hb2 rfl d_Lm_element_9 ?_
    refine g_icmp_ge (pc := 12) C 24 d_Lm_element_12 rfl (fun e3 => ?_) (fun e3 => ?_)
    · have h := o_pos e3 h
      refine g_bipush (pc := 24) C (-2 : Int32) d_Lm_element_24 (by decide) ?_
      obtain rfl := o_ret h
      exact g_iret (pc := 26) C d_Lm_element_26
    · have h := o_neg e3 h
      refine g_iload_n (pc := 15) C d_Lm_element_15 rfl 2 rfl ?_
      refine g_if_lt (pc := 16) C 24 d_Lm_element_16 rfl (fun e4 => ?_) (fun e4 => ?_)
      · have h := o_pos e4 h
        refine g_bipush (pc := 24) C (-2 : Int32) d_Lm_element_24 (by decide) ?_
        obtain rfl := o_ret h
        exact g_iret (pc := 26) C d_Lm_element_26
      · have h := o_neg e4 h
        refine g_iload_n (pc := 19) C d_Lm_element_19 rfl 2 rfl ?_
        refine g_iconst (pc := 20) C (5 : Int32) d_Lm_element_20 (by decide) ?_
        refine g_icmp_lt (pc := 21) C 27 d_Lm_element_21 rfl (fun e5 => ?_) (fun e5 => ?_)
        · have h := o_pos e5 h
          refine g_aload_n (pc := 27) C d_Lm_element_27 rfl 0 rfl ?_
          obtain ⟨b6, hnb6, hb6, h⟩ := o_rq h
          refine g_get (pc := 28) (k := 1) (v := va_rf ((N a0 1).map ad)) C gcX10 inX10 (by decide) fl_Lm_19 ha0 rfl d_Lm_element_28 ?_
          refine g_top (g_rf hnb6) ?_
          refine g_iload_n (pc := 31) C d_Lm_element_31 rfl 1 rfl ?_
          refine g_iload_n (pc := 32) C d_Lm_element_32 rfl 2 rfl ?_
          obtain ⟨r7, hc8, h⟩ := o_bn1 h
          refine g_V (pc := 33) (rest := []) C (k_La_item (xl X) hb6 hc8) sm_La_item ml_Lm_185 im_La_item se_La_item gcX3 rfl hb6 ⟨rfl, rfl, Nat.le_of_ble_eq_true rfl, Nat.le_of_ble_eq_true rfl⟩ ⟨Nat.zero_le _, Nat.zero_le _⟩ rfl rfl (Nat.le_of_ble_eq_true rfl) d_Lm_element_33 [.int r7] rfl ?_
          obtain rfl := o_ret h
          exact g_iret (pc := 36) C d_Lm_element_36
        · have h := o_neg e5 h
          refine g_bipush (pc := 24) C (-2 : Int32) d_Lm_element_24 (by decide) ?_
          obtain rfl := o_ret h
          exact g_iret (pc := 26) C d_Lm_element_26
set_option maxRecDepth 20000 in
theorem k_Lm_element (l : Launch) {I : HI} {J : HJ} {N : HN} {a0 : Nat} {p1 : Int32} {p2 : Int32} {r : Int32} (ha0 : gk Tc nC a0 (0, 10)) (h : Lm_element I N a0 p1 p2 = some r) : gM l y_Lm_element c_Lm_element 3 (some .int) rm_Lm_element Tc nC I J N (fun ad => [.ref (ad a0), .int p1, .int p2]) (I, J, N, fun _ => some (.int r)) :=
  g_meth (lv := fun ad => [(0, .ref (ad a0)), (1, .int p1), (2, .int p2)]) (by decide) (fun _ => Nat.le_of_ble_eq_true rfl) (fun _ => rfl) (fun X ad C => g_lv [0, 1, 2] rfl (w_Lm_element_0 C ha0 h))
theorem d_Lm_fold_0 : decode c_Lm_fold 0 = .ok (.iload_n 1, 1) := by decide +kernel
theorem d_Lm_fold_1 : decode c_Lm_fold 1 = .ok (.invokestatic 69, 3) := by decide +kernel
theorem d_Lm_fold_4 : decode c_Lm_fold 4 = .ok (.ifCond .eq 20, 3) := by decide +kernel
theorem d_Lm_fold_7 : decode c_Lm_fold 7 = .ok (.iload_n 2, 1) := by decide +kernel
theorem d_Lm_fold_8 : decode c_Lm_fold 8 = .ok (.invokestatic 73, 3) := by decide +kernel
theorem d_Lm_fold_11 : decode c_Lm_fold 11 = .ok (.ifCond .eq 13, 3) := by decide +kernel
theorem d_Lm_fold_14 : decode c_Lm_fold 14 = .ok (.aload_n 0, 1) := by decide +kernel
theorem d_Lm_fold_15 : decode c_Lm_fold 15 = .ok (.getfield 19, 3) := by decide +kernel
theorem d_Lm_fold_18 : decode c_Lm_fold 18 = .ok (.getfield 161, 3) := by decide +kernel
theorem d_Lm_fold_21 : decode c_Lm_fold 21 = .ok (.ifCond .ne 5, 3) := by decide +kernel
theorem d_Lm_fold_24 : decode c_Lm_fold 24 = .ok (.lconst 0, 1) := by decide +kernel
theorem d_Lm_fold_25 : decode c_Lm_fold 25 = .ok (.lreturn, 1) := by decide +kernel
theorem d_Lm_fold_26 : decode c_Lm_fold 26 = .ok (.aload_n 0, 1) := by decide +kernel
theorem d_Lm_fold_27 : decode c_Lm_fold 27 = .ok (.getfield 26, 3) := by decide +kernel
theorem d_Lm_fold_30 : decode c_Lm_fold 30 = .ok (.getfield 188, 3) := by decide +kernel
theorem d_Lm_fold_33 : decode c_Lm_fold 33 = .ok (.iload_n 1, 1) := by decide +kernel
theorem d_Lm_fold_34 : decode c_Lm_fold 34 = .ok (.invokevirtual 81, 3) := by decide +kernel
theorem d_Lm_fold_37 : decode c_Lm_fold 37 = .ok (.iload_n 2, 1) := by decide +kernel
theorem d_Lm_fold_38 : decode c_Lm_fold 38 = .ok (.invokevirtual 85, 3) := by decide +kernel
theorem d_Lm_fold_41 : decode c_Lm_fold 41 = .ok (.lreturn, 1) := by decide +kernel
set_option maxRecDepth 20000 in
theorem w_Lm_fold_0 {X : HX} {ad : Nat → Nat} {I : HI} {J : HJ} {N : HN} {r : Int64} {a0 : Nat} {p1 : Int32} {p2 : Int32} (C : Cx X c_Lm_fold RX10 3 (some .long) rm_Lm_fold) (ha0 : gk Tc nC a0 (0, 10))
    (h : Lm_fold_0 I J N a0 p1 p2 = some r) : G Tc X ad nC 0 0 I J N (gE X Tc ad nC (I, J, N, fun _ => some (.long r))) 0 3 [(0, .ref (ad a0)), (1, .int p1), (2, .int p2)] [] := by
  refine g_iload_n (pc := 0) C d_Lm_fold_0 rfl 1 rfl ?_
  obtain ⟨r1, hc2, h⟩ := o_bn1 h
  refine g_S (pc := 1) (rest := []) C (k_Lm_isPlace (xl X)  hc2) sm_Lm_isPlace ml_Lm_69 st_Lm_isPlace ⟨rfl, rfl, Nat.le_of_ble_eq_true rfl, Nat.le_of_ble_eq_true rfl⟩ ⟨Nat.zero_le _, Nat.zero_le _⟩ rfl rfl (Nat.le_of_ble_eq_true rfl) d_Lm_fold_1 [.int r1] rfl ?_
  refine g_if_eq (pc := 4) C 24 d_Lm_fold_4 rfl (fun e3 => ?_) (fun e3 => ?_)
  · have h := o_pos e3 h
    refine g_lconst (pc := 24) C (0 : Int64) d_Lm_fold_24 (by decide) ?_
    obtain rfl := o_ret h
    exact g_lret (pc := 25) C d_Lm_fold_25
  · have h := o_neg e3 h
    refine g_iload_n (pc := 7) C d_Lm_fold_7 rfl 2 rfl ?_
    obtain ⟨r4, hc5, h⟩ := o_bn1 h
    refine g_S (pc := 8) (rest := []) C (k_Lm_isPower (xl X)  hc5) sm_Lm_isPower ml_Lm_73 st_Lm_isPower ⟨rfl, rfl, Nat.le_of_ble_eq_true rfl, Nat.le_of_ble_eq_true rfl⟩ ⟨Nat.zero_le _, Nat.zero_le _⟩ rfl rfl (Nat.le_of_ble_eq_true rfl) d_Lm_fold_8 [.int r4] rfl ?_
    refine g_if_eq (pc := 11) C 24 d_Lm_fold_11 rfl (fun e6 => ?_) (fun e6 => ?_)
    · have h := o_pos e6 h
      refine g_lconst (pc := 24) C (0 : Int64) d_Lm_fold_24 (by decide) ?_
      obtain rfl := o_ret h
      exact g_lret (pc := 25) C d_Lm_fold_25
    · have h := o_neg e6 h
      refine g_aload_n (pc := 14) C d_Lm_fold_14 rfl 0 rfl ?_
      obtain ⟨b7, hnb7, hb7, h⟩ := o_rq h
      refine g_get (pc := 15) (k := 1) (v := va_rf ((N a0 1).map ad)) C gcX10 inX10 (by decide) fl_Lm_19 ha0 rfl d_Lm_fold_15 ?_
      refine g_top (g_rf hnb7) ?_
      refine g_getN (pc := 18) (k := 1) (v := .int (I b7 1)) C gcX3 inX3 (by decide) fl_Lm_161 hb7 rfl d_Lm_fold_18 ?_
      refine g_if_ne (pc := 21) C 26 d_Lm_fold_21 rfl (fun e8 => ?_) (fun e8 => ?_)
      · have h := o_neg e8 h
        refine g_aload_n (pc := 26) C d_Lm_fold_26 rfl 0 rfl ?_
        obtain ⟨b9, hnb9, hb9, h⟩ := o_rq h
        refine g_get (pc := 27) (k := 2) (v := va_rf ((N a0 2).map ad)) C gcX10 inX10 (by decide) fl_Lm_26 ha0 rfl d_Lm_fold_27 ?_
        refine g_top (g_rf hnb9) ?_
        obtain ⟨b10, hnb10, hb10, h⟩ := o_rq h
        refine g_getN (pc := 30) (k := 0) (v := va_rf ((N b9 0).map ad)) C gcX1 inX1 (by decide) fl_Lm_188 hb9 rfl d_Lm_fold_30 ?_
        refine g_top (g_rf hnb10) ?_
        refine g_iload_n (pc := 33) C d_Lm_fold_33 rfl 1 rfl ?_
        obtain ⟨b11, hc12, h⟩ := o_bn1 h
        refine g_V (pc := 34) (rest := []) C (k_Pa_side (xl X) hb10 hc12) sm_Pa_side ml_Lm_81 im_Pa_side se_Pa_side gcX5 rfl hb10 ⟨rfl, rfl, Nat.le_of_ble_eq_true rfl, Nat.le_of_ble_eq_true rfl⟩ ⟨Nat.zero_le _, Nat.zero_le _⟩ rfl rfl (Nat.le_of_ble_eq_true rfl) d_Lm_fold_34 [.ref (ad b11)] rfl ?_
        obtain ⟨hb11, h⟩ := o_gd h
        have hb11 : gk Tc nC b11 (0, 6) := of_decide_eq_true (p := b11 < nC ∧ Tc b11 = (0, 6)) hb11
        refine g_iload_n (pc := 37) C d_Lm_fold_37 rfl 2 rfl ?_
        obtain ⟨r13, hc14, h⟩ := o_bn1 h
        refine g_V (pc := 38) (rest := []) C (k_Po_at (xl X) hb11 hc14) sm_Po_at ml_Lm_85 im_Po_at se_Po_at gcX6 rfl hb11 ⟨rfl, rfl, Nat.le_of_ble_eq_true rfl, Nat.le_of_ble_eq_true rfl⟩ ⟨Nat.zero_le _, Nat.zero_le _⟩ rfl rfl (Nat.le_of_ble_eq_true rfl) d_Lm_fold_38 [.long r13] rfl ?_
        obtain rfl := o_ret h
        exact g_lret (pc := 41) C d_Lm_fold_41
      · have h := o_pos e8 h
        refine g_lconst (pc := 24) C (0 : Int64) d_Lm_fold_24 (by decide) ?_
        obtain rfl := o_ret h
        exact g_lret (pc := 25) C d_Lm_fold_25
set_option maxRecDepth 20000 in
theorem k_Lm_fold (l : Launch) {I : HI} {J : HJ} {N : HN} {a0 : Nat} {p1 : Int32} {p2 : Int32} {r : Int64} (ha0 : gk Tc nC a0 (0, 10)) (h : Lm_fold I J N a0 p1 p2 = some r) : gM l y_Lm_fold c_Lm_fold 3 (some .long) rm_Lm_fold Tc nC I J N (fun ad => [.ref (ad a0), .int p1, .int p2]) (I, J, N, fun _ => some (.long r)) :=
  g_meth (lv := fun ad => [(0, .ref (ad a0)), (1, .int p1), (2, .int p2)]) (by decide) (fun _ => Nat.le_of_ble_eq_true rfl) (fun _ => rfl) (fun X ad C => g_lv [0, 1, 2] rfl (w_Lm_fold_0 C ha0 h))
theorem d_Lm_alike_0 : decode c_Lm_alike 0 = .ok (.aload_n 0, 1) := by decide +kernel
theorem d_Lm_alike_1 : decode c_Lm_alike 1 = .ok (.getfield 19, 3) := by decide +kernel
theorem d_Lm_alike_4 : decode c_Lm_alike 4 = .ok (.getfield 161, 3) := by decide +kernel
theorem d_Lm_alike_7 : decode c_Lm_alike 7 = .ok (.ifCond .eq 18, 3) := by decide +kernel
theorem d_Lm_alike_10 : decode c_Lm_alike 10 = .ok (.aload_n 0, 1) := by decide +kernel
theorem d_Lm_alike_11 : decode c_Lm_alike 11 = .ok (.getfield 12, 3) := by decide +kernel
theorem d_Lm_alike_14 : decode c_Lm_alike 14 = .ok (.iconst 1, 1) := by decide +kernel
theorem d_Lm_alike_15 : decode c_Lm_alike 15 = .ok (.invokevirtual 81, 3) := by decide +kernel
theorem d_Lm_alike_18 : decode c_Lm_alike 18 = .ok (.invokevirtual 128, 3) := by decide +kernel
theorem d_Lm_alike_21 : decode c_Lm_alike 21 = .ok (.iconst (-1), 1) := by decide +kernel
theorem d_Lm_alike_22 : decode c_Lm_alike 22 = .ok (.if_icmp .ne 6, 3) := by decide +kernel
theorem d_Lm_alike_25 : decode c_Lm_alike 25 = .ok (.bipush (-3), 2) := by decide +kernel
theorem d_Lm_alike_27 : decode c_Lm_alike 27 = .ok (.ireturn, 1) := by decide +kernel
theorem d_Lm_alike_28 : decode c_Lm_alike 28 = .ok (.aload_n 0, 1) := by decide +kernel
theorem d_Lm_alike_29 : decode c_Lm_alike 29 = .ok (.getfield 26, 3) := by decide +kernel
theorem d_Lm_alike_32 : decode c_Lm_alike 32 = .ok (.getfield 188, 3) := by decide +kernel
theorem d_Lm_alike_35 : decode c_Lm_alike 35 = .ok (.aload_n 0, 1) := by decide +kernel
theorem d_Lm_alike_36 : decode c_Lm_alike 36 = .ok (.getfield 12, 3) := by decide +kernel
theorem d_Lm_alike_39 : decode c_Lm_alike 39 = .ok (.invokevirtual 191, 3) := by decide +kernel
theorem d_Lm_alike_42 : decode c_Lm_alike 42 = .ok (.ifCond .eq 7, 3) := by decide +kernel
theorem d_Lm_alike_45 : decode c_Lm_alike 45 = .ok (.iconst 1, 1) := by decide +kernel
theorem d_Lm_alike_46 : decode c_Lm_alike 46 = .ok (.goto 4, 3) := by decide +kernel
theorem d_Lm_alike_49 : decode c_Lm_alike 49 = .ok (.iconst 0, 1) := by decide +kernel
theorem d_Lm_alike_50 : decode c_Lm_alike 50 = .ok (.ireturn, 1) := by decide +kernel
set_option maxRecDepth 20000 in
theorem w_Lm_alike_0 {X : HX} {ad : Nat → Nat} {I : HI} {J : HJ} {N : HN} {r : Int32} {a0 : Nat} (C : Cx X c_Lm_alike RX10 1 (some .int) rm_Lm_alike) (ha0 : gk Tc nC a0 (0, 10))
    (h : Lm_alike_0 I J N a0 = some r) : G Tc X ad nC 0 0 I J N (gE X Tc ad nC (I, J, N, fun _ => some (.int r))) 0 1 [(0, .ref (ad a0))] [] := by
  refine g_aload_n (pc := 0) C d_Lm_alike_0 rfl 0 rfl ?_
  obtain ⟨b1, hnb1, hb1, h⟩ := o_rq h
  refine g_get (pc := 1) (k := 1) (v := va_rf ((N a0 1).map ad)) C gcX10 inX10 (by decide) fl_Lm_19 ha0 rfl d_Lm_alike_1 ?_
  refine g_top (g_rf hnb1) ?_
  refine g_getN (pc := 4) (k := 1) (v := .int (I b1 1)) C gcX3 inX3 (by decide) fl_Lm_161 hb1 rfl d_Lm_alike_4 ?_
  refine g_if_eq (pc := 7) C 25 d_Lm_alike_7 rfl (fun e2 => ?_) (fun e2 => ?_)
  · have h := o_pos e2 h
    refine g_bipush (pc := 25) C (-3 : Int32) d_Lm_alike_25 (by decide) ?_
    obtain rfl := o_ret h
    exact g_iret (pc := 27) C d_Lm_alike_27
  · have h := o_neg e2 h
    refine g_aload_n (pc := 10) C d_Lm_alike_10 rfl 0 rfl ?_
    obtain ⟨b3, hnb3, hb3, h⟩ := o_rq h
    refine g_get (pc := 11) (k := 0) (v := va_rf ((N a0 0).map ad)) C gcX10 inX10 (by decide) fl_Lm_12 ha0 rfl d_Lm_alike_11 ?_
    refine g_top (g_rf hnb3) ?_
    refine g_iconst (pc := 14) C (1 : Int32) d_Lm_alike_14 (by decide) ?_
    obtain ⟨b4, hc5, h⟩ := o_bn1 h
    refine g_V (pc := 15) (rest := []) C (k_Pa_side (xl X) hb3 hc5) sm_Pa_side ml_Lm_81 im_Pa_side se_Pa_side gcX5 rfl hb3 ⟨rfl, rfl, Nat.le_of_ble_eq_true rfl, Nat.le_of_ble_eq_true rfl⟩ ⟨Nat.zero_le _, Nat.zero_le _⟩ rfl rfl (Nat.le_of_ble_eq_true rfl) d_Lm_alike_15 [.ref (ad b4)] rfl ?_
    obtain ⟨hb4, h⟩ := o_gd h
    have hb4 : gk Tc nC b4 (0, 6) := of_decide_eq_true (p := b4 < nC ∧ Tc b4 = (0, 6)) hb4
    obtain ⟨r6, hc7, h⟩ := o_bn1 h
    refine g_V (pc := 18) (rest := []) C (k_Po_degree (xl X) hb4 hc7) sm_Po_degree ml_Lm_128 im_Po_degree se_Po_degree gcX6 rfl hb4 ⟨rfl, rfl, Nat.le_of_ble_eq_true rfl, Nat.le_of_ble_eq_true rfl⟩ ⟨Nat.zero_le _, Nat.zero_le _⟩ rfl rfl (Nat.le_of_ble_eq_true rfl) d_Lm_alike_18 [.int r6] rfl ?_
    refine g_iconst (pc := 21) C (-1 : Int32) d_Lm_alike_21 (by decide) ?_
    refine g_icmp_ne (pc := 22) C 28 d_Lm_alike_22 rfl (fun e8 => ?_) (fun e8 => ?_)
    · have h := o_neg e8 h
      refine g_aload_n (pc := 28) C d_Lm_alike_28 rfl 0 rfl ?_
      obtain ⟨b9, hnb9, hb9, h⟩ := o_rq h
      refine g_get (pc := 29) (k := 2) (v := va_rf ((N a0 2).map ad)) C gcX10 inX10 (by decide) fl_Lm_26 ha0 rfl d_Lm_alike_29 ?_
      refine g_top (g_rf hnb9) ?_
      obtain ⟨b10, hnb10, hb10, h⟩ := o_rq h
      refine g_getN (pc := 32) (k := 0) (v := va_rf ((N b9 0).map ad)) C gcX1 inX1 (by decide) fl_Lm_188 hb9 rfl d_Lm_alike_32 ?_
      refine g_top (g_rf hnb10) ?_
      refine g_aload_n (pc := 35) C d_Lm_alike_35 rfl 0 rfl ?_
      obtain ⟨b11, hnb11, hb11, h⟩ := o_rq h
      refine g_get (pc := 36) (k := 0) (v := va_rf ((N a0 0).map ad)) C gcX10 inX10 (by decide) fl_Lm_12 ha0 rfl d_Lm_alike_36 ?_
      refine g_top (g_rf hnb11) ?_
      obtain ⟨r12, hc13, h⟩ := o_bn1 h
      refine g_V (pc := 39) (rest := []) C (k_Pa_isFractionOf (xl X) hb10 hb11 hc13) sm_Pa_isFractionOf ml_Lm_191 im_Pa_isFractionOf se_Pa_isFractionOf gcX5 rfl hb10 ⟨rfl, rfl, Nat.le_of_ble_eq_true rfl, Nat.le_of_ble_eq_true rfl⟩ ⟨Nat.zero_le _, Nat.zero_le _⟩ rfl rfl (Nat.le_of_ble_eq_true rfl) d_Lm_alike_39 [.int r12] rfl ?_
      refine g_if_eq (pc := 42) C 49 d_Lm_alike_42 rfl (fun e14 => ?_) (fun e14 => ?_)
      · have h := o_pos e14 h
        refine g_iconst (pc := 49) C (0 : Int32) d_Lm_alike_49 (by decide) ?_
        obtain rfl := o_ret h
        exact g_iret (pc := 50) C d_Lm_alike_50
      · have h := o_neg e14 h
        refine g_iconst (pc := 45) C (1 : Int32) d_Lm_alike_45 (by decide) ?_
        refine g_goto (pc := 46) C 50 d_Lm_alike_46 rfl ?_
        obtain rfl := o_ret h
        exact g_iret (pc := 50) C d_Lm_alike_50
    · have h := o_pos e8 h
      refine g_bipush (pc := 25) C (-3 : Int32) d_Lm_alike_25 (by decide) ?_
      obtain rfl := o_ret h
      exact g_iret (pc := 27) C d_Lm_alike_27
set_option maxRecDepth 20000 in
theorem k_Lm_alike (l : Launch) {I : HI} {J : HJ} {N : HN} {a0 : Nat} {r : Int32} (ha0 : gk Tc nC a0 (0, 10)) (h : Lm_alike I J N a0 = some r) : gM l y_Lm_alike c_Lm_alike 1 (some .int) rm_Lm_alike Tc nC I J N (fun ad => [.ref (ad a0)]) (I, J, N, fun _ => some (.int r)) :=
  g_meth (lv := fun ad => [(0, .ref (ad a0))]) (by decide) (fun _ => Nat.le_of_ble_eq_true rfl) (fun _ => rfl) (fun X ad C => g_lv [0] rfl (w_Lm_alike_0 C ha0 h))
theorem d_Lm_take_0 : decode c_Lm_take 0 = .ok (.aload_n 0, 1) := by decide +kernel
theorem d_Lm_take_1 : decode c_Lm_take 1 = .ok (.getfield 19, 3) := by decide +kernel
theorem d_Lm_take_4 : decode c_Lm_take 4 = .ok (.getfield 161, 3) := by decide +kernel
theorem d_Lm_take_7 : decode c_Lm_take 7 = .ok (.ifCond .ne 6, 3) := by decide +kernel
theorem d_Lm_take_10 : decode c_Lm_take 10 = .ok (.bipush (-3), 2) := by decide +kernel
theorem d_Lm_take_12 : decode c_Lm_take 12 = .ok (.ireturn, 1) := by decide +kernel
theorem d_Lm_take_13 : decode c_Lm_take 13 = .ok (.iconst 0, 1) := by decide +kernel
theorem d_Lm_take_14 : decode c_Lm_take 14 = .ok (.istore_n 1, 1) := by decide +kernel
theorem d_Lm_take_15 : decode c_Lm_take 15 = .ok (.iload_n 1, 1) := by decide +kernel
theorem d_Lm_take_16 : decode c_Lm_take 16 = .ok (.bipush 14, 2) := by decide +kernel
theorem d_Lm_take_18 : decode c_Lm_take 18 = .ok (.if_icmp .ge 29, 3) := by decide +kernel
theorem d_Lm_take_21 : decode c_Lm_take 21 = .ok (.aload_n 0, 1) := by decide +kernel
theorem d_Lm_take_22 : decode c_Lm_take 22 = .ok (.getfield 26, 3) := by decide +kernel
theorem d_Lm_take_25 : decode c_Lm_take 25 = .ok (.getfield 188, 3) := by decide +kernel
theorem d_Lm_take_28 : decode c_Lm_take 28 = .ok (.iload_n 1, 1) := by decide +kernel
theorem d_Lm_take_29 : decode c_Lm_take 29 = .ok (.invokevirtual 195, 3) := by decide +kernel
theorem d_Lm_take_32 : decode c_Lm_take 32 = .ok (.invokestatic 76, 3) := by decide +kernel
theorem d_Lm_take_35 : decode c_Lm_take 35 = .ok (.ifCond .ne 6, 3) := by decide +kernel
theorem d_Lm_take_38 : decode c_Lm_take 38 = .ok (.bipush (-5), 2) := by decide +kernel
theorem d_Lm_take_40 : decode c_Lm_take 40 = .ok (.ireturn, 1) := by decide +kernel
theorem d_Lm_take_41 : decode c_Lm_take 41 = .ok (.iinc 1 1, 3) := by decide +kernel
theorem d_Lm_take_44 : decode c_Lm_take 44 = .ok (.goto (-29), 3) := by decide +kernel
theorem d_Lm_take_47 : decode c_Lm_take 47 = .ok (.aload_n 0, 1) := by decide +kernel
theorem d_Lm_take_48 : decode c_Lm_take 48 = .ok (.getfield 12, 3) := by decide +kernel
theorem d_Lm_take_51 : decode c_Lm_take 51 = .ok (.aload_n 0, 1) := by decide +kernel
theorem d_Lm_take_52 : decode c_Lm_take 52 = .ok (.getfield 26, 3) := by decide +kernel
theorem d_Lm_take_55 : decode c_Lm_take 55 = .ok (.getfield 188, 3) := by decide +kernel
theorem d_Lm_take_58 : decode c_Lm_take 58 = .ok (.invokevirtual 198, 3) := by decide +kernel
theorem d_Lm_take_61 : decode c_Lm_take 61 = .ok (.aload_n 0, 1) := by decide +kernel
theorem d_Lm_take_62 : decode c_Lm_take 62 = .ok (.getfield 12, 3) := by decide +kernel
theorem d_Lm_take_65 : decode c_Lm_take 65 = .ok (.invokevirtual 102, 3) := by decide +kernel
theorem d_Lm_take_68 : decode c_Lm_take 68 = .ok (.ireturn, 1) := by decide +kernel
set_option maxRecDepth 20000 in
theorem w_Lm_take_15b {X : HX} {ad : Nat → Nat} {I : HI} {J : HJ} {N : HN} {r : HJ × Int32} {k15 : HJ → Int32 → Option (HJ × Int32)} {a0 : Nat} {x1 : Int32} (C : Cx X c_Lm_take RX10 2 (some .int) rm_Lm_take) (ha0 : gk Tc nC a0 (0, 10))
    (hk15 : ∀ (J : HJ) (x1 : Int32), k15 J x1 = some r → G Tc X ad nC 0 0 I J N (gE X Tc ad nC (I, r.1, N, fun _ => some (.int r.2))) 15 2 [(0, .ref (ad a0)), (1, .int x1)] [])
    (h : Lm_take_15b I N a0 k15 J x1 = some r) : G Tc X ad nC 0 0 I J N (gE X Tc ad nC (I, r.1, N, fun _ => some (.int r.2))) 15 2 [(0, .ref (ad a0)), (1, .int x1)] [] := by
  refine g_iload_n (pc := 15) C d_Lm_take_15 rfl 1 rfl ?_
  refine g_bipush (pc := 16) C (14 : Int32) d_Lm_take_16 (by decide) ?_
  refine g_icmp_ge (pc := 18) C 47 d_Lm_take_18 rfl (fun e1 => ?_) (fun e1 => ?_)
  · have h := o_pos e1 h
    refine g_aload_n (pc := 47) C d_Lm_take_47 rfl 0 rfl ?_
    obtain ⟨b2, hnb2, hb2, h⟩ := o_rq h
    refine g_get (pc := 48) (k := 0) (v := va_rf ((N a0 0).map ad)) C gcX10 inX10 (by decide) fl_Lm_12 ha0 rfl d_Lm_take_48 ?_
    refine g_top (g_rf hnb2) ?_
    refine g_aload_n (pc := 51) C d_Lm_take_51 rfl 0 rfl ?_
    obtain ⟨b3, hnb3, hb3, h⟩ := o_rq h
    refine g_get (pc := 52) (k := 2) (v := va_rf ((N a0 2).map ad)) C gcX10 inX10 (by decide) fl_Lm_26 ha0 rfl d_Lm_take_52 ?_
    refine g_top (g_rf hnb3) ?_
    obtain ⟨b4, hnb4, hb4, h⟩ := o_rq h
    refine g_getN (pc := 55) (k := 0) (v := va_rf ((N b3 0).map ad)) C gcX1 inX1 (by decide) fl_Lm_188 hb3 rfl d_Lm_take_55 ?_
    refine g_top (g_rf hnb4) ?_
    obtain ⟨J5, hc6, h⟩ := o_bn1 h
    refine g_V (pc := 58) (rest := []) C (k_Pa_load (xl X) hb2 hb4 hc6) sm_Pa_load ml_Lm_198 im_Pa_load se_Pa_load gcX5 rfl hb2 ⟨rfl, rfl, Nat.le_of_ble_eq_true rfl, Nat.le_of_ble_eq_true rfl⟩ ⟨Nat.zero_le _, Nat.zero_le _⟩ rfl rfl (Nat.le_of_ble_eq_true rfl) d_Lm_take_58 [] rfl ?_
    refine g_aload_n (pc := 61) C d_Lm_take_61 rfl 0 rfl ?_
    obtain ⟨b7, hnb7, hb7, h⟩ := o_rq h
    refine g_get (pc := 62) (k := 0) (v := va_rf ((N a0 0).map ad)) C gcX10 inX10 (by decide) fl_Lm_12 ha0 rfl d_Lm_take_62 ?_
    refine g_top (g_rf hnb7) ?_
    obtain ⟨r8, hc9, h⟩ := o_bn1 h
    refine g_V (pc := 65) (rest := []) C (k_Pa_greaterDegree (xl X) hb7 hc9) sm_Pa_greaterDegree ml_Lm_102 im_Pa_greaterDegree se_Pa_greaterDegree gcX5 rfl hb7 ⟨rfl, rfl, Nat.le_of_ble_eq_true rfl, Nat.le_of_ble_eq_true rfl⟩ ⟨Nat.zero_le _, Nat.zero_le _⟩ rfl rfl (Nat.le_of_ble_eq_true rfl) d_Lm_take_65 [.int r8] rfl ?_
    obtain rfl := o_ret h
    exact g_iret (pc := 68) C d_Lm_take_68
  · have h := o_neg e1 h
    refine g_aload_n (pc := 21) C d_Lm_take_21 rfl 0 rfl ?_
    obtain ⟨b10, hnb10, hb10, h⟩ := o_rq h
    refine g_get (pc := 22) (k := 2) (v := va_rf ((N a0 2).map ad)) C gcX10 inX10 (by decide) fl_Lm_26 ha0 rfl d_Lm_take_22 ?_
    refine g_top (g_rf hnb10) ?_
    obtain ⟨b11, hnb11, hb11, h⟩ := o_rq h
    refine g_getN (pc := 25) (k := 0) (v := va_rf ((N b10 0).map ad)) C gcX1 inX1 (by decide) fl_Lm_188 hb10 rfl d_Lm_take_25 ?_
    refine g_top (g_rf hnb11) ?_
    refine g_iload_n (pc := 28) C d_Lm_take_28 rfl 1 rfl ?_
    obtain ⟨r12, hc13, h⟩ := o_bn1 h
    refine g_V (pc := 29) (rest := []) C (k_Pa_number (xl X) hb11 hc13) sm_Pa_number ml_Lm_195 im_Pa_number se_Pa_number gcX5 rfl hb11 ⟨rfl, rfl, Nat.le_of_ble_eq_true rfl, Nat.le_of_ble_eq_true rfl⟩ ⟨Nat.zero_le _, Nat.zero_le _⟩ rfl rfl (Nat.le_of_ble_eq_true rfl) d_Lm_take_29 [.long r12] rfl ?_
    obtain ⟨r14, hc15, h⟩ := o_bn1 h
    refine g_S (pc := 32) (rest := []) C (k_Lm_isWishNumber (xl X)  hc15) sm_Lm_isWishNumber ml_Lm_76 st_Lm_isWishNumber ⟨rfl, rfl, Nat.le_of_ble_eq_true rfl, Nat.le_of_ble_eq_true rfl⟩ ⟨Nat.zero_le _, Nat.zero_le _⟩ rfl rfl (Nat.le_of_ble_eq_true rfl) d_Lm_take_32 [.int r14] rfl ?_
    refine g_if_ne (pc := 35) C 41 d_Lm_take_35 rfl (fun e16 => ?_) (fun e16 => ?_)
    · have h := o_neg e16 h
      refine g_iinc (pc := 41) (q := 1) (lv' := [(1, .int (x1 + 1)), (0, .ref (ad a0))]) C d_Lm_take_41 rfl rfl (by decide) rfl ?_
      refine g_goto (pc := 44) C 15 d_Lm_take_44 rfl ?_
      refine g_lv [1, 0] rfl ?_
      exact hk15 _ _ h
    · have h := o_pos e16 h
      refine g_bipush (pc := 38) C (-5 : Int32) d_Lm_take_38 (by decide) ?_
      obtain rfl := o_ret h
      exact g_iret (pc := 40) C d_Lm_take_40
set_option maxRecDepth 20000 in
theorem w_Lm_take_15 {X : HX} {ad : Nat → Nat} {I : HI} {N : HN} {r : HJ × Int32} {a0 : Nat} (C : Cx X c_Lm_take RX10 2 (some .int) rm_Lm_take) (ha0 : gk Tc nC a0 (0, 10)) : ∀ (n : Nat) (J : HJ) (x1 : Int32), Lm_take_15 I N a0 n J x1 = some r → G Tc X ad nC 0 0 I J N (gE X Tc ad nC (I, r.1, N, fun _ => some (.int r.2))) 15 2 [(0, .ref (ad a0)), (1, .int x1)] [] := by
  intro n
  induction n with
  | zero => intro J x1 h; cases h
  | succ n ih => intro J x1 h; exact w_Lm_take_15b C ha0 ih h
set_option maxRecDepth 20000 in
theorem w_Lm_take_0 {X : HX} {ad : Nat → Nat} {I : HI} {J : HJ} {N : HN} {r : HJ × Int32} {a0 : Nat} (C : Cx X c_Lm_take RX10 2 (some .int) rm_Lm_take) (ha0 : gk Tc nC a0 (0, 10))
    (h : Lm_take_0 I N a0 J = some r) : G Tc X ad nC 0 0 I J N (gE X Tc ad nC (I, r.1, N, fun _ => some (.int r.2))) 0 2 [(0, .ref (ad a0))] [] := by
  refine g_aload_n (pc := 0) C d_Lm_take_0 rfl 0 rfl ?_
  obtain ⟨b1, hnb1, hb1, h⟩ := o_rq h
  refine g_get (pc := 1) (k := 1) (v := va_rf ((N a0 1).map ad)) C gcX10 inX10 (by decide) fl_Lm_19 ha0 rfl d_Lm_take_1 ?_
  refine g_top (g_rf hnb1) ?_
  refine g_getN (pc := 4) (k := 1) (v := .int (I b1 1)) C gcX3 inX3 (by decide) fl_Lm_161 hb1 rfl d_Lm_take_4 ?_
  refine g_if_ne (pc := 7) C 13 d_Lm_take_7 rfl (fun e2 => ?_) (fun e2 => ?_)
  · have h := o_neg e2 h
    refine g_iconst (pc := 13) C (0 : Int32) d_Lm_take_13 (by decide) ?_
    refine g_istore_n (pc := 14) (lv' := [(1, .int (0 : Int32)), (0, .ref (ad a0))]) C d_Lm_take_14 rfl (by decide) rfl ?_
    refine g_lv [1, 0] rfl ?_
    exact w_Lm_take_15 C ha0 _ _ _ h
  · have h := o_pos e2 h
    refine g_bipush (pc := 10) C (-3 : Int32) d_Lm_take_10 (by decide) ?_
    obtain rfl := o_ret h
    exact g_iret (pc := 12) C d_Lm_take_12
set_option maxRecDepth 20000 in
theorem k_Lm_take (l : Launch) {I : HI} {J : HJ} {N : HN} {a0 : Nat} {r : HJ × Int32} (ha0 : gk Tc nC a0 (0, 10)) (h : Lm_take I N a0 J = some r) : gM l y_Lm_take c_Lm_take 2 (some .int) rm_Lm_take Tc nC I J N (fun ad => [.ref (ad a0)]) (I, r.1, N, fun _ => some (.int r.2)) :=
  g_meth (lv := fun ad => [(0, .ref (ad a0))]) (by decide) (fun _ => Nat.le_of_ble_eq_true rfl) (fun _ => rfl) (fun X ad C => g_lv [0] rfl (w_Lm_take_0 C ha0 h))
theorem d_Lm_bill_0 : decode c_Lm_bill 0 = .ok (.iload_n 1, 1) := by decide +kernel
theorem d_Lm_bill_1 : decode c_Lm_bill 1 = .ok (.ifCond .lt 23, 3) := by decide +kernel
theorem d_Lm_bill_4 : decode c_Lm_bill 4 = .ok (.iload_n 1, 1) := by decide +kernel
theorem d_Lm_bill_5 : decode c_Lm_bill 5 = .ok (.aload_n 0, 1) := by decide +kernel
theorem d_Lm_bill_6 : decode c_Lm_bill 6 = .ok (.getfield 40, 3) := by decide +kernel
theorem d_Lm_bill_9 : decode c_Lm_bill 9 = .ok (.getfield 201, 3) := by decide +kernel
theorem d_Lm_bill_12 : decode c_Lm_bill 12 = .ok (.if_icmp .ge 12, 3) := by decide +kernel
theorem d_Lm_bill_15 : decode c_Lm_bill 15 = .ok (.iload_n 2, 1) := by decide +kernel
theorem d_Lm_bill_16 : decode c_Lm_bill 16 = .ok (.ifCond .lt 8, 3) := by decide +kernel
theorem d_Lm_bill_19 : decode c_Lm_bill 19 = .ok (.iload_n 2, 1) := by decide +kernel
theorem d_Lm_bill_20 : decode c_Lm_bill 20 = .ok (.iconst 4, 1) := by decide +kernel
theorem d_Lm_bill_21 : decode c_Lm_bill 21 = .ok (.if_icmp .lt 6, 3) := by decide +kernel
theorem d_Lm_bill_24 : decode c_Lm_bill 24 = .ok (.bipush (-2), 2) := by decide +kernel
theorem d_Lm_bill_26 : decode c_Lm_bill 26 = .ok (.ireturn, 1) := by decide +kernel
theorem d_Lm_bill_27 : decode c_Lm_bill 27 = .ok (.aload_n 0, 1) := by decide +kernel
theorem d_Lm_bill_28 : decode c_Lm_bill 28 = .ok (.getfield 40, 3) := by decide +kernel
theorem d_Lm_bill_31 : decode c_Lm_bill 31 = .ok (.iload_n 1, 1) := by decide +kernel
theorem d_Lm_bill_32 : decode c_Lm_bill 32 = .ok (.iload_n 2, 1) := by decide +kernel
theorem d_Lm_bill_33 : decode c_Lm_bill 33 = .ok (.invokevirtual 204, 3) := by decide +kernel
theorem d_Lm_bill_36 : decode c_Lm_bill 36 = .ok (.ireturn, 1) := by decide +kernel
set_option maxRecDepth 20000 in
theorem w_Lm_bill_0 {X : HX} {ad : Nat → Nat} {I : HI} {J : HJ} {N : HN} {r : Int32} {a0 : Nat} {p1 : Int32} {p2 : Int32} (C : Cx X c_Lm_bill RX10 3 (some .int) rm_Lm_bill) (ha0 : gk Tc nC a0 (0, 10))
    (h : Lm_bill_0 I N a0 p1 p2 = some r) : G Tc X ad nC 0 0 I J N (gE X Tc ad nC (I, J, N, fun _ => some (.int r))) 0 3 [(0, .ref (ad a0)), (1, .int p1), (2, .int p2)] [] := by
  refine g_iload_n (pc := 0) C d_Lm_bill_0 rfl 1 rfl ?_
  refine g_if_lt (pc := 1) C 24 d_Lm_bill_1 rfl (fun e1 => ?_) (fun e1 => ?_)
  · have h := o_pos e1 h
    refine g_bipush (pc := 24) C (-2 : Int32) d_Lm_bill_24 (by decide) ?_
    obtain rfl := o_ret h
    exact g_iret (pc := 26) C d_Lm_bill_26
  · have h := o_neg e1 h
    refine g_iload_n (pc := 4) C d_Lm_bill_4 rfl 1 rfl ?_
    refine g_aload_n (pc := 5) C d_Lm_bill_5 rfl 0 rfl ?_
    obtain ⟨b2, hnb2, hb2, h⟩ := o_rq h
    refine g_get (pc := 6) (k := 4) (v := va_rf ((N a0 4).map ad)) C gcX10 inX10 (by decide) fl_Lm_40 ha0 rfl d_Lm_bill_6 ?_
    refine g_top (g_rf hnb2) ?_
    refine g_getN (pc := 9) (k := 1) (v := .int (I b2 1)) C gcX0 inX0 (by decide) fl_Lm_201 hb2 rfl d_Lm_bill_9 ?_
    refine g_icmp_ge (pc := 12) C 24 d_Lm_bill_12 rfl (fun e3 => ?_) (fun e3 => ?_)
    · have h := o_pos e3 h
      refine g_bipush (pc := 24) C (-2 : Int32) d_Lm_bill_24 (by decide) ?_
      obtain rfl := o_ret h
      exact g_iret (pc := 26) C d_Lm_bill_26
    · have h := o_neg e3 h
      refine g_iload_n (pc := 15) C d_Lm_bill_15 rfl 2 rfl ?_
      refine g_if_lt (pc := 16) C 24 d_Lm_bill_16 rfl (fun e4 => ?_) (fun e4 => ?_)
      · have h := o_pos e4 h
        refine g_bipush (pc := 24) C (-2 : Int32) d_Lm_bill_24 (by decide) ?_
        obtain rfl := o_ret h
        exact g_iret (pc := 26) C d_Lm_bill_26
      · have h := o_neg e4 h
        refine g_iload_n (pc := 19) C d_Lm_bill_19 rfl 2 rfl ?_
        refine g_iconst (pc := 20) C (4 : Int32) d_Lm_bill_20 (by decide) ?_
        refine g_icmp_lt (pc := 21) C 27 d_Lm_bill_21 rfl (fun e5 => ?_) (fun e5 => ?_)
        · have h := o_pos e5 h
          refine g_aload_n (pc := 27) C d_Lm_bill_27 rfl 0 rfl ?_
          obtain ⟨b6, hnb6, hb6, h⟩ := o_rq h
          refine g_get (pc := 28) (k := 4) (v := va_rf ((N a0 4).map ad)) C gcX10 inX10 (by decide) fl_Lm_40 ha0 rfl d_Lm_bill_28 ?_
          refine g_top (g_rf hnb6) ?_
          refine g_iload_n (pc := 31) C d_Lm_bill_31 rfl 1 rfl ?_
          refine g_iload_n (pc := 32) C d_Lm_bill_32 rfl 2 rfl ?_
          obtain ⟨r7, hc8, h⟩ := o_bn1 h
          refine g_V (pc := 33) (rest := []) C (k_Bi_item (xl X) hb6 hc8) sm_Bi_item ml_Lm_204 im_Bi_item se_Bi_item gcX0 rfl hb6 ⟨rfl, rfl, Nat.le_of_ble_eq_true rfl, Nat.le_of_ble_eq_true rfl⟩ ⟨Nat.zero_le _, Nat.zero_le _⟩ rfl rfl (Nat.le_of_ble_eq_true rfl) d_Lm_bill_33 [.int r7] rfl ?_
          obtain rfl := o_ret h
          exact g_iret (pc := 36) C d_Lm_bill_36
        · have h := o_neg e5 h
          refine g_bipush (pc := 24) C (-2 : Int32) d_Lm_bill_24 (by decide) ?_
          obtain rfl := o_ret h
          exact g_iret (pc := 26) C d_Lm_bill_26
set_option maxRecDepth 20000 in
theorem k_Lm_bill (l : Launch) {I : HI} {J : HJ} {N : HN} {a0 : Nat} {p1 : Int32} {p2 : Int32} {r : Int32} (ha0 : gk Tc nC a0 (0, 10)) (h : Lm_bill I N a0 p1 p2 = some r) : gM l y_Lm_bill c_Lm_bill 3 (some .int) rm_Lm_bill Tc nC I J N (fun ad => [.ref (ad a0), .int p1, .int p2]) (I, J, N, fun _ => some (.int r)) :=
  g_meth (lv := fun ad => [(0, .ref (ad a0)), (1, .int p1), (2, .int p2)]) (by decide) (fun _ => Nat.le_of_ble_eq_true rfl) (fun _ => rfl) (fun X ad C => g_lv [0, 1, 2] rfl (w_Lm_bill_0 C ha0 h))
theorem d_Lm_values_0 : decode c_Lm_values 0 = .ok (.aload_n 0, 1) := by decide +kernel
theorem d_Lm_values_1 : decode c_Lm_values 1 = .ok (.getfield 40, 3) := by decide +kernel
theorem d_Lm_values_4 : decode c_Lm_values 4 = .ok (.invokevirtual 205, 3) := by decide +kernel
theorem d_Lm_values_7 : decode c_Lm_values 7 = .ok (.ireturn, 1) := by decide +kernel
set_option maxRecDepth 20000 in
theorem w_Lm_values_0 {X : HX} {ad : Nat → Nat} {I : HI} {J : HJ} {N : HN} {r : Int32} {a0 : Nat} (C : Cx X c_Lm_values RX10 1 (some .int) rm_Lm_values) (ha0 : gk Tc nC a0 (0, 10))
    (h : Lm_values_0 I N a0 = some r) : G Tc X ad nC 0 0 I J N (gE X Tc ad nC (I, J, N, fun _ => some (.int r))) 0 1 [(0, .ref (ad a0))] [] := by
  refine g_aload_n (pc := 0) C d_Lm_values_0 rfl 0 rfl ?_
  obtain ⟨b1, hnb1, hb1, h⟩ := o_rq h
  refine g_get (pc := 1) (k := 4) (v := va_rf ((N a0 4).map ad)) C gcX10 inX10 (by decide) fl_Lm_40 ha0 rfl d_Lm_values_1 ?_
  refine g_top (g_rf hnb1) ?_
  obtain ⟨r2, hc3, h⟩ := o_bn1 h
  refine g_V (pc := 4) (rest := []) C (k_Bi_differentValues (xl X) hb1 hc3) sm_Bi_differentValues ml_Lm_205 im_Bi_differentValues se_Bi_differentValues gcX0 rfl hb1 ⟨rfl, rfl, Nat.le_of_ble_eq_true rfl, Nat.le_of_ble_eq_true rfl⟩ ⟨Nat.zero_le _, Nat.zero_le _⟩ rfl rfl (Nat.le_of_ble_eq_true rfl) d_Lm_values_4 [.int r2] rfl ?_
  obtain rfl := o_ret h
  exact g_iret (pc := 7) C d_Lm_values_7
set_option maxRecDepth 20000 in
theorem k_Lm_values (l : Launch) {I : HI} {J : HJ} {N : HN} {a0 : Nat} {r : Int32} (ha0 : gk Tc nC a0 (0, 10)) (h : Lm_values I N a0 = some r) : gM l y_Lm_values c_Lm_values 1 (some .int) rm_Lm_values Tc nC I J N (fun ad => [.ref (ad a0)]) (I, J, N, fun _ => some (.int r)) :=
  g_meth (lv := fun ad => [(0, .ref (ad a0))]) (by decide) (fun _ => Nat.le_of_ble_eq_true rfl) (fun _ => rfl) (fun X ad C => g_lv [0] rfl (w_Lm_values_0 C ha0 h))
theorem d_Lm_keep_0 : decode c_Lm_keep 0 = .ok (.aload_n 0, 1) := by decide +kernel
theorem d_Lm_keep_1 : decode c_Lm_keep 1 = .ok (.getfield 47, 3) := by decide +kernel
theorem d_Lm_keep_4 : decode c_Lm_keep 4 = .ok (.aload_n 0, 1) := by decide +kernel
theorem d_Lm_keep_5 : decode c_Lm_keep 5 = .ok (.getfield 12, 3) := by decide +kernel
theorem d_Lm_keep_8 : decode c_Lm_keep 8 = .ok (.invokevirtual 208, 3) := by decide +kernel
theorem d_Lm_keep_11 : decode c_Lm_keep 11 = .ok (.ireturn, 1) := by decide +kernel
set_option maxRecDepth 20000 in
theorem w_Lm_keep_0 {X : HX} {ad : Nat → Nat} {I : HI} {J : HJ} {N : HN} {r : HI × HJ × Int32} {a0 : Nat} (C : Cx X c_Lm_keep RX10 1 (some .int) rm_Lm_keep) (ha0 : gk Tc nC a0 (0, 10))
    (h : Lm_keep_0 N a0 I J = some r) : G Tc X ad nC 0 0 I J N (gE X Tc ad nC (r.1, r.2.1, N, fun _ => some (.int r.2.2))) 0 1 [(0, .ref (ad a0))] [] := by
  refine g_aload_n (pc := 0) C d_Lm_keep_0 rfl 0 rfl ?_
  obtain ⟨b1, hnb1, hb1, h⟩ := o_rq h
  refine g_get (pc := 1) (k := 5) (v := va_rf ((N a0 5).map ad)) C gcX10 inX10 (by decide) fl_Lm_47 ha0 rfl d_Lm_keep_1 ?_
  refine g_top (g_rf hnb1) ?_
  refine g_aload_n (pc := 4) C d_Lm_keep_4 rfl 0 rfl ?_
  obtain ⟨b2, hnb2, hb2, h⟩ := o_rq h
  refine g_get (pc := 5) (k := 0) (v := va_rf ((N a0 0).map ad)) C gcX10 inX10 (by decide) fl_Lm_12 ha0 rfl d_Lm_keep_5 ?_
  refine g_top (g_rf hnb2) ?_
  obtain ⟨I3, J4, r5, hc6, h⟩ := o_bn3 h
  refine g_V (pc := 8) (rest := []) C (k_Me_keepOnce (xl X) hb1 hb2 hc6) sm_Me_keepOnce ml_Lm_208 im_Me_keepOnce se_Me_keepOnce gcX4 rfl hb1 ⟨rfl, rfl, Nat.le_of_ble_eq_true rfl, Nat.le_of_ble_eq_true rfl⟩ ⟨Nat.zero_le _, Nat.zero_le _⟩ rfl rfl (Nat.le_of_ble_eq_true rfl) d_Lm_keep_8 [.int r5] rfl ?_
  obtain rfl := o_ret h
  exact g_iret (pc := 11) C d_Lm_keep_11
set_option maxRecDepth 20000 in
theorem k_Lm_keep (l : Launch) {I : HI} {J : HJ} {N : HN} {a0 : Nat} {r : HI × HJ × Int32} (ha0 : gk Tc nC a0 (0, 10)) (h : Lm_keep N a0 I J = some r) : gM l y_Lm_keep c_Lm_keep 1 (some .int) rm_Lm_keep Tc nC I J N (fun ad => [.ref (ad a0)]) (r.1, r.2.1, N, fun _ => some (.int r.2.2)) :=
  g_meth (lv := fun ad => [(0, .ref (ad a0))]) (by decide) (fun _ => Nat.le_of_ble_eq_true rfl) (fun _ => rfl) (fun X ad C => g_lv [0] rfl (w_Lm_keep_0 C ha0 h))
theorem d_Lm_find_0 : decode c_Lm_find 0 = .ok (.aload_n 0, 1) := by decide +kernel
theorem d_Lm_find_1 : decode c_Lm_find 1 = .ok (.getfield 47, 3) := by decide +kernel
theorem d_Lm_find_4 : decode c_Lm_find 4 = .ok (.aload_n 0, 1) := by decide +kernel
theorem d_Lm_find_5 : decode c_Lm_find 5 = .ok (.getfield 12, 3) := by decide +kernel
theorem d_Lm_find_8 : decode c_Lm_find 8 = .ok (.invokevirtual 212, 3) := by decide +kernel
theorem d_Lm_find_11 : decode c_Lm_find 11 = .ok (.ireturn, 1) := by decide +kernel
set_option maxRecDepth 20000 in
theorem w_Lm_find_0 {X : HX} {ad : Nat → Nat} {I : HI} {J : HJ} {N : HN} {r : HJ × Int32} {a0 : Nat} (C : Cx X c_Lm_find RX10 1 (some .int) rm_Lm_find) (ha0 : gk Tc nC a0 (0, 10))
    (h : Lm_find_0 I N a0 J = some r) : G Tc X ad nC 0 0 I J N (gE X Tc ad nC (I, r.1, N, fun _ => some (.int r.2))) 0 1 [(0, .ref (ad a0))] [] := by
  refine g_aload_n (pc := 0) C d_Lm_find_0 rfl 0 rfl ?_
  obtain ⟨b1, hnb1, hb1, h⟩ := o_rq h
  refine g_get (pc := 1) (k := 5) (v := va_rf ((N a0 5).map ad)) C gcX10 inX10 (by decide) fl_Lm_47 ha0 rfl d_Lm_find_1 ?_
  refine g_top (g_rf hnb1) ?_
  refine g_aload_n (pc := 4) C d_Lm_find_4 rfl 0 rfl ?_
  obtain ⟨b2, hnb2, hb2, h⟩ := o_rq h
  refine g_get (pc := 5) (k := 0) (v := va_rf ((N a0 0).map ad)) C gcX10 inX10 (by decide) fl_Lm_12 ha0 rfl d_Lm_find_5 ?_
  refine g_top (g_rf hnb2) ?_
  obtain ⟨J3, r4, hc5, h⟩ := o_bn2 h
  refine g_V (pc := 8) (rest := []) C (k_Me_numberOf (xl X) hb1 hb2 hc5) sm_Me_numberOf ml_Lm_212 im_Me_numberOf se_Me_numberOf gcX4 rfl hb1 ⟨rfl, rfl, Nat.le_of_ble_eq_true rfl, Nat.le_of_ble_eq_true rfl⟩ ⟨Nat.zero_le _, Nat.zero_le _⟩ rfl rfl (Nat.le_of_ble_eq_true rfl) d_Lm_find_8 [.int r4] rfl ?_
  obtain rfl := o_ret h
  exact g_iret (pc := 11) C d_Lm_find_11
set_option maxRecDepth 20000 in
theorem k_Lm_find (l : Launch) {I : HI} {J : HJ} {N : HN} {a0 : Nat} {r : HJ × Int32} (ha0 : gk Tc nC a0 (0, 10)) (h : Lm_find I N a0 J = some r) : gM l y_Lm_find c_Lm_find 1 (some .int) rm_Lm_find Tc nC I J N (fun ad => [.ref (ad a0)]) (I, r.1, N, fun _ => some (.int r.2)) :=
  g_meth (lv := fun ad => [(0, .ref (ad a0))]) (by decide) (fun _ => Nat.le_of_ble_eq_true rfl) (fun _ => rfl) (fun X ad C => g_lv [0] rfl (w_Lm_find_0 C ha0 h))
theorem d_Lm_kept_0 : decode c_Lm_kept 0 = .ok (.aload_n 0, 1) := by decide +kernel
theorem d_Lm_kept_1 : decode c_Lm_kept 1 = .ok (.getfield 47, 3) := by decide +kernel
theorem d_Lm_kept_4 : decode c_Lm_kept 4 = .ok (.iload_n 1, 1) := by decide +kernel
theorem d_Lm_kept_5 : decode c_Lm_kept 5 = .ok (.invokevirtual 215, 3) := by decide +kernel
theorem d_Lm_kept_8 : decode c_Lm_kept 8 = .ok (.ifCond .eq 13, 3) := by decide +kernel
theorem d_Lm_kept_11 : decode c_Lm_kept 11 = .ok (.iload_n 2, 1) := by decide +kernel
theorem d_Lm_kept_12 : decode c_Lm_kept 12 = .ok (.ifCond .lt 9, 3) := by decide +kernel
theorem d_Lm_kept_15 : decode c_Lm_kept 15 = .ok (.iload_n 2, 1) := by decide +kernel
theorem d_Lm_kept_16 : decode c_Lm_kept 16 = .ok (.bipush 15, 2) := by decide +kernel
theorem d_Lm_kept_18 : decode c_Lm_kept 18 = .ok (.if_icmp .lt 6, 3) := by decide +kernel
theorem d_Lm_kept_21 : decode c_Lm_kept 21 = .ok (.ldc 80, 2) := by decide +kernel
theorem d_Lm_kept_23 : decode c_Lm_kept 23 = .ok (.ireturn, 1) := by decide +kernel
theorem d_Lm_kept_24 : decode c_Lm_kept 24 = .ok (.aload_n 0, 1) := by decide +kernel
theorem d_Lm_kept_25 : decode c_Lm_kept 25 = .ok (.getfield 47, 3) := by decide +kernel
theorem d_Lm_kept_28 : decode c_Lm_kept 28 = .ok (.iload_n 1, 1) := by decide +kernel
theorem d_Lm_kept_29 : decode c_Lm_kept 29 = .ok (.iload_n 2, 1) := by decide +kernel
theorem d_Lm_kept_30 : decode c_Lm_kept 30 = .ok (.invokevirtual 218, 3) := by decide +kernel
theorem d_Lm_kept_33 : decode c_Lm_kept 33 = .ok (.ireturn, 1) := by decide +kernel
set_option maxRecDepth 20000 in
theorem w_Lm_kept_0 {X : HX} {ad : Nat → Nat} {I : HI} {J : HJ} {N : HN} {r : Int32} {a0 : Nat} {p1 : Int32} {p2 : Int32} (C : Cx X c_Lm_kept RX10 3 (some .int) rm_Lm_kept) (ha0 : gk Tc nC a0 (0, 10))
    (h : Lm_kept_0 I N a0 p1 p2 = some r) : G Tc X ad nC 0 0 I J N (gE X Tc ad nC (I, J, N, fun _ => some (.int r))) 0 3 [(0, .ref (ad a0)), (1, .int p1), (2, .int p2)] [] := by
  refine g_aload_n (pc := 0) C d_Lm_kept_0 rfl 0 rfl ?_
  obtain ⟨b1, hnb1, hb1, h⟩ := o_rq h
  refine g_get (pc := 1) (k := 5) (v := va_rf ((N a0 5).map ad)) C gcX10 inX10 (by decide) fl_Lm_47 ha0 rfl d_Lm_kept_1 ?_
  refine g_top (g_rf hnb1) ?_
  refine g_iload_n (pc := 4) C d_Lm_kept_4 rfl 1 rfl ?_
  obtain ⟨r2, hc3, h⟩ := o_bn1 h
  refine g_V (pc := 5) (rest := []) C (k_Me_holds (xl X) hb1 hc3) sm_Me_holds ml_Lm_215 im_Me_holds se_Me_holds gcX4 rfl hb1 ⟨rfl, rfl, Nat.le_of_ble_eq_true rfl, Nat.le_of_ble_eq_true rfl⟩ ⟨Nat.zero_le _, Nat.zero_le _⟩ rfl rfl (Nat.le_of_ble_eq_true rfl) d_Lm_kept_5 [.int r2] rfl ?_
  refine g_if_eq (pc := 8) C 21 d_Lm_kept_8 rfl (fun e4 => ?_) (fun e4 => ?_)
  · have h := o_pos e4 h
    refine g_ldc (pc := 21) C kc_Lm_80 d_Lm_kept_21 ?_
    obtain rfl := o_ret h
    exact g_iret (pc := 23) C d_Lm_kept_23
  · have h := o_neg e4 h
    refine g_iload_n (pc := 11) C d_Lm_kept_11 rfl 2 rfl ?_
    refine g_if_lt (pc := 12) C 21 d_Lm_kept_12 rfl (fun e5 => ?_) (fun e5 => ?_)
    · have h := o_pos e5 h
      refine g_ldc (pc := 21) C kc_Lm_80 d_Lm_kept_21 ?_
      obtain rfl := o_ret h
      exact g_iret (pc := 23) C d_Lm_kept_23
    · have h := o_neg e5 h
      refine g_iload_n (pc := 15) C d_Lm_kept_15 rfl 2 rfl ?_
      refine g_bipush (pc := 16) C (15 : Int32) d_Lm_kept_16 (by decide) ?_
      refine g_icmp_lt (pc := 18) C 24 d_Lm_kept_18 rfl (fun e6 => ?_) (fun e6 => ?_)
      · have h := o_pos e6 h
        refine g_aload_n (pc := 24) C d_Lm_kept_24 rfl 0 rfl ?_
        obtain ⟨b7, hnb7, hb7, h⟩ := o_rq h
        refine g_get (pc := 25) (k := 5) (v := va_rf ((N a0 5).map ad)) C gcX10 inX10 (by decide) fl_Lm_47 ha0 rfl d_Lm_kept_25 ?_
        refine g_top (g_rf hnb7) ?_
        refine g_iload_n (pc := 28) C d_Lm_kept_28 rfl 1 rfl ?_
        refine g_iload_n (pc := 29) C d_Lm_kept_29 rfl 2 rfl ?_
        obtain ⟨r8, hc9, h⟩ := o_bn1 h
        refine g_V (pc := 30) (rest := []) C (k_Me_item (xl X) hb7 hc9) sm_Me_item ml_Lm_218 im_Me_item se_Me_item gcX4 rfl hb7 ⟨rfl, rfl, Nat.le_of_ble_eq_true rfl, Nat.le_of_ble_eq_true rfl⟩ ⟨Nat.zero_le _, Nat.zero_le _⟩ rfl rfl (Nat.le_of_ble_eq_true rfl) d_Lm_kept_30 [.int r8] rfl ?_
        obtain rfl := o_ret h
        exact g_iret (pc := 33) C d_Lm_kept_33
      · have h := o_neg e6 h
        refine g_ldc (pc := 21) C kc_Lm_80 d_Lm_kept_21 ?_
        obtain rfl := o_ret h
        exact g_iret (pc := 23) C d_Lm_kept_23
set_option maxRecDepth 20000 in
theorem k_Lm_kept (l : Launch) {I : HI} {J : HJ} {N : HN} {a0 : Nat} {p1 : Int32} {p2 : Int32} {r : Int32} (ha0 : gk Tc nC a0 (0, 10)) (h : Lm_kept I N a0 p1 p2 = some r) : gM l y_Lm_kept c_Lm_kept 3 (some .int) rm_Lm_kept Tc nC I J N (fun ad => [.ref (ad a0), .int p1, .int p2]) (I, J, N, fun _ => some (.int r)) :=
  g_meth (lv := fun ad => [(0, .ref (ad a0)), (1, .int p1), (2, .int p2)]) (by decide) (fun _ => Nat.le_of_ble_eq_true rfl) (fun _ => rfl) (fun X ad C => g_lv [0, 1, 2] rfl (w_Lm_kept_0 C ha0 h))
theorem d_Lm_recall_0 : decode c_Lm_recall 0 = .ok (.aload_n 0, 1) := by decide +kernel
theorem d_Lm_recall_1 : decode c_Lm_recall 1 = .ok (.getfield 47, 3) := by decide +kernel
theorem d_Lm_recall_4 : decode c_Lm_recall 4 = .ok (.iload_n 1, 1) := by decide +kernel
theorem d_Lm_recall_5 : decode c_Lm_recall 5 = .ok (.invokevirtual 215, 3) := by decide +kernel
theorem d_Lm_recall_8 : decode c_Lm_recall 8 = .ok (.ifCond .ne 6, 3) := by decide +kernel
theorem d_Lm_recall_11 : decode c_Lm_recall 11 = .ok (.bipush (-2), 2) := by decide +kernel
theorem d_Lm_recall_13 : decode c_Lm_recall 13 = .ok (.ireturn, 1) := by decide +kernel
theorem d_Lm_recall_14 : decode c_Lm_recall 14 = .ok (.iconst 0, 1) := by decide +kernel
theorem d_Lm_recall_15 : decode c_Lm_recall 15 = .ok (.istore_n 2, 1) := by decide +kernel
theorem d_Lm_recall_16 : decode c_Lm_recall 16 = .ok (.iload_n 2, 1) := by decide +kernel
theorem d_Lm_recall_17 : decode c_Lm_recall 17 = .ok (.bipush 14, 2) := by decide +kernel
theorem d_Lm_recall_19 : decode c_Lm_recall 19 = .ok (.if_icmp .ge 29, 3) := by decide +kernel
theorem d_Lm_recall_22 : decode c_Lm_recall 22 = .ok (.aload_n 0, 1) := by decide +kernel
theorem d_Lm_recall_23 : decode c_Lm_recall 23 = .ok (.getfield 12, 3) := by decide +kernel
theorem d_Lm_recall_26 : decode c_Lm_recall 26 = .ok (.iload_n 2, 1) := by decide +kernel
theorem d_Lm_recall_27 : decode c_Lm_recall 27 = .ok (.aload_n 0, 1) := by decide +kernel
theorem d_Lm_recall_28 : decode c_Lm_recall 28 = .ok (.getfield 47, 3) := by decide +kernel
theorem d_Lm_recall_31 : decode c_Lm_recall 31 = .ok (.iload_n 1, 1) := by decide +kernel
theorem d_Lm_recall_32 : decode c_Lm_recall 32 = .ok (.iconst 1, 1) := by decide +kernel
theorem d_Lm_recall_33 : decode c_Lm_recall 33 = .ok (.iload_n 2, 1) := by decide +kernel
theorem d_Lm_recall_34 : decode c_Lm_recall 34 = .ok (.iadd, 1) := by decide +kernel
theorem d_Lm_recall_35 : decode c_Lm_recall 35 = .ok (.invokevirtual 218, 3) := by decide +kernel
theorem d_Lm_recall_38 : decode c_Lm_recall 38 = .ok (.i2l, 1) := by decide +kernel
theorem d_Lm_recall_39 : decode c_Lm_recall 39 = .ok (.invokevirtual 125, 3) := by decide +kernel
theorem d_Lm_recall_42 : decode c_Lm_recall 42 = .ok (.iinc 2 1, 3) := by decide +kernel
theorem d_Lm_recall_45 : decode c_Lm_recall 45 = .ok (.goto (-29), 3) := by decide +kernel
theorem d_Lm_recall_48 : decode c_Lm_recall 48 = .ok (.aload_n 0, 1) := by decide +kernel
theorem d_Lm_recall_49 : decode c_Lm_recall 49 = .ok (.getfield 47, 3) := by decide +kernel
theorem d_Lm_recall_52 : decode c_Lm_recall 52 = .ok (.iload_n 1, 1) := by decide +kernel
theorem d_Lm_recall_53 : decode c_Lm_recall 53 = .ok (.iconst 0, 1) := by decide +kernel
theorem d_Lm_recall_54 : decode c_Lm_recall 54 = .ok (.invokevirtual 218, 3) := by decide +kernel
theorem d_Lm_recall_57 : decode c_Lm_recall 57 = .ok (.ireturn, 1) := by decide +kernel
set_option maxRecDepth 20000 in
theorem w_Lm_recall_16b {X : HX} {ad : Nat → Nat} {I : HI} {J : HJ} {N : HN} {r : HJ × Int32} {k16 : HJ → Int32 → Option (HJ × Int32)} {a0 : Nat} {p1 : Int32} {x2 : Int32} (C : Cx X c_Lm_recall RX10 3 (some .int) rm_Lm_recall) (ha0 : gk Tc nC a0 (0, 10))
    (hk16 : ∀ (J : HJ) (x2 : Int32), k16 J x2 = some r → G Tc X ad nC 0 0 I J N (gE X Tc ad nC (I, r.1, N, fun _ => some (.int r.2))) 16 3 [(0, .ref (ad a0)), (1, .int p1), (2, .int x2)] [])
    (h : Lm_recall_16b I N a0 p1 k16 J x2 = some r) : G Tc X ad nC 0 0 I J N (gE X Tc ad nC (I, r.1, N, fun _ => some (.int r.2))) 16 3 [(0, .ref (ad a0)), (1, .int p1), (2, .int x2)] [] := by
  refine g_iload_n (pc := 16) C d_Lm_recall_16 rfl 2 rfl ?_
  refine g_bipush (pc := 17) C (14 : Int32) d_Lm_recall_17 (by decide) ?_
  refine g_icmp_ge (pc := 19) C 48 d_Lm_recall_19 rfl (fun e1 => ?_) (fun e1 => ?_)
  · have h := o_pos e1 h
    refine g_aload_n (pc := 48) C d_Lm_recall_48 rfl 0 rfl ?_
    obtain ⟨b2, hnb2, hb2, h⟩ := o_rq h
    refine g_get (pc := 49) (k := 5) (v := va_rf ((N a0 5).map ad)) C gcX10 inX10 (by decide) fl_Lm_47 ha0 rfl d_Lm_recall_49 ?_
    refine g_top (g_rf hnb2) ?_
    refine g_iload_n (pc := 52) C d_Lm_recall_52 rfl 1 rfl ?_
    refine g_iconst (pc := 53) C (0 : Int32) d_Lm_recall_53 (by decide) ?_
    obtain ⟨r3, hc4, h⟩ := o_bn1 h
    refine g_V (pc := 54) (rest := []) C (k_Me_item (xl X) hb2 hc4) sm_Me_item ml_Lm_218 im_Me_item se_Me_item gcX4 rfl hb2 ⟨rfl, rfl, Nat.le_of_ble_eq_true rfl, Nat.le_of_ble_eq_true rfl⟩ ⟨Nat.zero_le _, Nat.zero_le _⟩ rfl rfl (Nat.le_of_ble_eq_true rfl) d_Lm_recall_54 [.int r3] rfl ?_
    obtain rfl := o_ret h
    exact g_iret (pc := 57) C d_Lm_recall_57
  · have h := o_neg e1 h
    refine g_aload_n (pc := 22) C d_Lm_recall_22 rfl 0 rfl ?_
    obtain ⟨b5, hnb5, hb5, h⟩ := o_rq h
    refine g_get (pc := 23) (k := 0) (v := va_rf ((N a0 0).map ad)) C gcX10 inX10 (by decide) fl_Lm_12 ha0 rfl d_Lm_recall_23 ?_
    refine g_top (g_rf hnb5) ?_
    refine g_iload_n (pc := 26) C d_Lm_recall_26 rfl 2 rfl ?_
    refine g_aload_n (pc := 27) C d_Lm_recall_27 rfl 0 rfl ?_
    obtain ⟨b6, hnb6, hb6, h⟩ := o_rq h
    refine g_get (pc := 28) (k := 5) (v := va_rf ((N a0 5).map ad)) C gcX10 inX10 (by decide) fl_Lm_47 ha0 rfl d_Lm_recall_28 ?_
    refine g_top (g_rf hnb6) ?_
    refine g_iload_n (pc := 31) C d_Lm_recall_31 rfl 1 rfl ?_
    refine g_iconst (pc := 32) C (1 : Int32) d_Lm_recall_32 (by decide) ?_
    refine g_iload_n (pc := 33) C d_Lm_recall_33 rfl 2 rfl ?_
    refine g_iadd (pc := 34) C d_Lm_recall_34 ?_
    obtain ⟨r7, hc8, h⟩ := o_bn1 h
    refine g_V (pc := 35) (rest := [.int x2, .ref (ad b5)]) C (k_Me_item (xl X) hb6 hc8) sm_Me_item ml_Lm_218 im_Me_item se_Me_item gcX4 rfl hb6 ⟨rfl, rfl, Nat.le_of_ble_eq_true rfl, Nat.le_of_ble_eq_true rfl⟩ ⟨Nat.zero_le _, Nat.zero_le _⟩ rfl rfl (Nat.le_of_ble_eq_true rfl) d_Lm_recall_35 [.int r7, .int x2, .ref (ad b5)] rfl ?_
    refine g_i2l (pc := 38) C d_Lm_recall_38 ?_
    obtain ⟨J9, hc10, h⟩ := o_bn1 h
    refine g_V (pc := 39) (rest := []) C (k_Pa_putNumber (xl X) hb5 hc10) sm_Pa_putNumber ml_Lm_125 im_Pa_putNumber se_Pa_putNumber gcX5 rfl hb5 ⟨rfl, rfl, Nat.le_of_ble_eq_true rfl, Nat.le_of_ble_eq_true rfl⟩ ⟨Nat.zero_le _, Nat.zero_le _⟩ rfl rfl (Nat.le_of_ble_eq_true rfl) d_Lm_recall_39 [] rfl ?_
    refine g_iinc (pc := 42) (q := 2) (lv' := [(2, .int (x2 + 1)), (0, .ref (ad a0)), (1, .int p1)]) C d_Lm_recall_42 rfl rfl (by decide) rfl ?_
    refine g_goto (pc := 45) C 16 d_Lm_recall_45 rfl ?_
    refine g_lv [1, 2, 0] rfl ?_
    exact hk16 _ _ h
set_option maxRecDepth 20000 in
theorem w_Lm_recall_16 {X : HX} {ad : Nat → Nat} {I : HI} {N : HN} {r : HJ × Int32} {a0 : Nat} {p1 : Int32} (C : Cx X c_Lm_recall RX10 3 (some .int) rm_Lm_recall) (ha0 : gk Tc nC a0 (0, 10)) : ∀ (n : Nat) (J : HJ) (x2 : Int32), Lm_recall_16 I N a0 p1 n J x2 = some r → G Tc X ad nC 0 0 I J N (gE X Tc ad nC (I, r.1, N, fun _ => some (.int r.2))) 16 3 [(0, .ref (ad a0)), (1, .int p1), (2, .int x2)] [] := by
  intro n
  induction n with
  | zero => intro J x2 h; cases h
  | succ n ih => intro J x2 h; exact w_Lm_recall_16b C ha0 ih h
set_option maxRecDepth 20000 in
theorem w_Lm_recall_0 {X : HX} {ad : Nat → Nat} {I : HI} {J : HJ} {N : HN} {r : HJ × Int32} {a0 : Nat} {p1 : Int32} (C : Cx X c_Lm_recall RX10 3 (some .int) rm_Lm_recall) (ha0 : gk Tc nC a0 (0, 10))
    (h : Lm_recall_0 I N a0 p1 J = some r) : G Tc X ad nC 0 0 I J N (gE X Tc ad nC (I, r.1, N, fun _ => some (.int r.2))) 0 3 [(0, .ref (ad a0)), (1, .int p1)] [] := by
  refine g_aload_n (pc := 0) C d_Lm_recall_0 rfl 0 rfl ?_
  obtain ⟨b1, hnb1, hb1, h⟩ := o_rq h
  refine g_get (pc := 1) (k := 5) (v := va_rf ((N a0 5).map ad)) C gcX10 inX10 (by decide) fl_Lm_47 ha0 rfl d_Lm_recall_1 ?_
  refine g_top (g_rf hnb1) ?_
  refine g_iload_n (pc := 4) C d_Lm_recall_4 rfl 1 rfl ?_
  obtain ⟨r2, hc3, h⟩ := o_bn1 h
  refine g_V (pc := 5) (rest := []) C (k_Me_holds (xl X) hb1 hc3) sm_Me_holds ml_Lm_215 im_Me_holds se_Me_holds gcX4 rfl hb1 ⟨rfl, rfl, Nat.le_of_ble_eq_true rfl, Nat.le_of_ble_eq_true rfl⟩ ⟨Nat.zero_le _, Nat.zero_le _⟩ rfl rfl (Nat.le_of_ble_eq_true rfl) d_Lm_recall_5 [.int r2] rfl ?_
  refine g_if_ne (pc := 8) C 14 d_Lm_recall_8 rfl (fun e4 => ?_) (fun e4 => ?_)
  · have h := o_neg e4 h
    refine g_iconst (pc := 14) C (0 : Int32) d_Lm_recall_14 (by decide) ?_
    refine g_istore_n (pc := 15) (lv' := [(2, .int (0 : Int32)), (0, .ref (ad a0)), (1, .int p1)]) C d_Lm_recall_15 rfl (by decide) rfl ?_
    refine g_lv [1, 2, 0] rfl ?_
    exact w_Lm_recall_16 C ha0 _ _ _ h
  · have h := o_pos e4 h
    refine g_bipush (pc := 11) C (-2 : Int32) d_Lm_recall_11 (by decide) ?_
    obtain rfl := o_ret h
    exact g_iret (pc := 13) C d_Lm_recall_13
set_option maxRecDepth 20000 in
theorem k_Lm_recall (l : Launch) {I : HI} {J : HJ} {N : HN} {a0 : Nat} {p1 : Int32} {r : HJ × Int32} (ha0 : gk Tc nC a0 (0, 10)) (h : Lm_recall I N a0 p1 J = some r) : gM l y_Lm_recall c_Lm_recall 3 (some .int) rm_Lm_recall Tc nC I J N (fun ad => [.ref (ad a0), .int p1]) (I, r.1, N, fun _ => some (.int r.2)) :=
  g_meth (lv := fun ad => [(0, .ref (ad a0)), (1, .int p1)]) (by decide) (fun _ => Nat.le_of_ble_eq_true rfl) (fun _ => rfl) (fun X ad C => g_lv [0, 1] rfl (w_Lm_recall_0 C ha0 h))
theorem d_Lm_sheet_0 : decode c_Lm_sheet 0 = .ok (.aload_n 0, 1) := by decide +kernel
theorem d_Lm_sheet_1 : decode c_Lm_sheet 1 = .ok (.getfield 54, 3) := by decide +kernel
theorem d_Lm_sheet_4 : decode c_Lm_sheet 4 = .ok (.iload_n 1, 1) := by decide +kernel
theorem d_Lm_sheet_5 : decode c_Lm_sheet 5 = .ok (.invokevirtual 219, 3) := by decide +kernel
theorem d_Lm_sheet_8 : decode c_Lm_sheet 8 = .ok (.ifCond .eq 9, 3) := by decide +kernel
theorem d_Lm_sheet_11 : decode c_Lm_sheet 11 = .ok (.iload_n 2, 1) := by decide +kernel
theorem d_Lm_sheet_12 : decode c_Lm_sheet 12 = .ok (.bipush 40, 2) := by decide +kernel
theorem d_Lm_sheet_14 : decode c_Lm_sheet 14 = .ok (.if_icmp .le 6, 3) := by decide +kernel
theorem d_Lm_sheet_17 : decode c_Lm_sheet 17 = .ok (.bipush (-2), 2) := by decide +kernel
theorem d_Lm_sheet_19 : decode c_Lm_sheet 19 = .ok (.ireturn, 1) := by decide +kernel
theorem d_Lm_sheet_20 : decode c_Lm_sheet 20 = .ok (.iload_n 2, 1) := by decide +kernel
theorem d_Lm_sheet_21 : decode c_Lm_sheet 21 = .ok (.ifCond .ge 9, 3) := by decide +kernel
theorem d_Lm_sheet_24 : decode c_Lm_sheet 24 = .ok (.aload_n 0, 1) := by decide +kernel
theorem d_Lm_sheet_25 : decode c_Lm_sheet 25 = .ok (.iconst 3, 1) := by decide +kernel
theorem d_Lm_sheet_26 : decode c_Lm_sheet 26 = .ok (.invokevirtual 118, 3) := by decide +kernel
theorem d_Lm_sheet_29 : decode c_Lm_sheet 29 = .ok (.ireturn, 1) := by decide +kernel
theorem d_Lm_sheet_30 : decode c_Lm_sheet 30 = .ok (.aload_n 0, 1) := by decide +kernel
theorem d_Lm_sheet_31 : decode c_Lm_sheet 31 = .ok (.getfield 54, 3) := by decide +kernel
theorem d_Lm_sheet_34 : decode c_Lm_sheet 34 = .ok (.iload_n 1, 1) := by decide +kernel
theorem d_Lm_sheet_35 : decode c_Lm_sheet 35 = .ok (.iload_n 2, 1) := by decide +kernel
theorem d_Lm_sheet_36 : decode c_Lm_sheet 36 = .ok (.invokevirtual 222, 3) := by decide +kernel
theorem d_Lm_sheet_39 : decode c_Lm_sheet 39 = .ok (.iload_n 2, 1) := by decide +kernel
theorem d_Lm_sheet_40 : decode c_Lm_sheet 40 = .ok (.ireturn, 1) := by decide +kernel
set_option maxRecDepth 20000 in
theorem w_Lm_sheet_0 {X : HX} {ad : Nat → Nat} {I : HI} {J : HJ} {N : HN} {r : HI × HJ × Int32} {a0 : Nat} {p1 : Int32} {p2 : Int32} (C : Cx X c_Lm_sheet RX10 3 (some .int) rm_Lm_sheet) (ha0 : gk Tc nC a0 (0, 10))
    (h : Lm_sheet_0 N a0 p1 p2 I J = some r) : G Tc X ad nC 0 0 I J N (gE X Tc ad nC (r.1, r.2.1, N, fun _ => some (.int r.2.2))) 0 3 [(0, .ref (ad a0)), (1, .int p1), (2, .int p2)] [] := by
  refine g_aload_n (pc := 0) C d_Lm_sheet_0 rfl 0 rfl ?_
  obtain ⟨b1, hnb1, hb1, h⟩ := o_rq h
  refine g_get (pc := 1) (k := 6) (v := va_rf ((N a0 6).map ad)) C gcX10 inX10 (by decide) fl_Lm_54 ha0 rfl d_Lm_sheet_1 ?_
  refine g_top (g_rf hnb1) ?_
  refine g_iload_n (pc := 4) C d_Lm_sheet_4 rfl 1 rfl ?_
  obtain ⟨r2, hc3, h⟩ := o_bn1 h
  refine g_V (pc := 5) (rest := []) C (k_Sh_isSheet (xl X) hb1 hc3) sm_Sh_isSheet ml_Lm_219 im_Sh_isSheet se_Sh_isSheet gcX8 rfl hb1 ⟨rfl, rfl, Nat.le_of_ble_eq_true rfl, Nat.le_of_ble_eq_true rfl⟩ ⟨Nat.zero_le _, Nat.zero_le _⟩ rfl rfl (Nat.le_of_ble_eq_true rfl) d_Lm_sheet_5 [.int r2] rfl ?_
  refine g_if_eq (pc := 8) C 17 d_Lm_sheet_8 rfl (fun e4 => ?_) (fun e4 => ?_)
  · have h := o_pos e4 h
    refine g_bipush (pc := 17) C (-2 : Int32) d_Lm_sheet_17 (by decide) ?_
    obtain rfl := o_ret h
    exact g_iret (pc := 19) C d_Lm_sheet_19
  · have h := o_neg e4 h
    refine g_iload_n (pc := 11) C d_Lm_sheet_11 rfl 2 rfl ?_
    refine g_bipush (pc := 12) C (40 : Int32) d_Lm_sheet_12 (by decide) ?_
    refine g_icmp_le (pc := 14) C 20 d_Lm_sheet_14 rfl (fun e5 => ?_) (fun e5 => ?_)
    · have h := o_pos e5 h
      refine g_iload_n (pc := 20) C d_Lm_sheet_20 rfl 2 rfl ?_
      refine g_if_ge (pc := 21) C 30 d_Lm_sheet_21 rfl (fun e6 => ?_) (fun e6 => ?_)
      · have h := o_pos e6 h
        refine g_aload_n (pc := 30) C d_Lm_sheet_30 rfl 0 rfl ?_
        obtain ⟨b7, hnb7, hb7, h⟩ := o_rq h
        refine g_get (pc := 31) (k := 6) (v := va_rf ((N a0 6).map ad)) C gcX10 inX10 (by decide) fl_Lm_54 ha0 rfl d_Lm_sheet_31 ?_
        refine g_top (g_rf hnb7) ?_
        refine g_iload_n (pc := 34) C d_Lm_sheet_34 rfl 1 rfl ?_
        refine g_iload_n (pc := 35) C d_Lm_sheet_35 rfl 2 rfl ?_
        obtain ⟨I8, J9, hc10, h⟩ := o_bn2 h
        refine g_V (pc := 36) (rest := []) C (k_Sh_renew (xl X) hb7 hc10) sm_Sh_renew ml_Lm_222 im_Sh_renew se_Sh_renew gcX8 rfl hb7 ⟨rfl, rfl, Nat.le_of_ble_eq_true rfl, Nat.le_of_ble_eq_true rfl⟩ ⟨Nat.zero_le _, Nat.zero_le _⟩ rfl rfl (Nat.le_of_ble_eq_true rfl) d_Lm_sheet_36 [] rfl ?_
        refine g_iload_n (pc := 39) C d_Lm_sheet_39 rfl 2 rfl ?_
        obtain rfl := o_ret h
        exact g_iret (pc := 40) C d_Lm_sheet_40
      · have h := o_neg e6 h
        refine g_aload_n (pc := 24) C d_Lm_sheet_24 rfl 0 rfl ?_
        refine g_iconst (pc := 25) C (3 : Int32) d_Lm_sheet_25 (by decide) ?_
        obtain ⟨I11, r12, hc13, h⟩ := o_bn2 h
        refine g_V (pc := 26) (rest := []) C (k_Lm_finding (xl X) ha0 hc13) sm_Lm_finding ml_Lm_118 im_Lm_finding se_Lm_finding gcX10 rfl ha0 ⟨rfl, rfl, Nat.le_of_ble_eq_true rfl, Nat.le_of_ble_eq_true rfl⟩ ⟨Nat.zero_le _, Nat.zero_le _⟩ rfl rfl (Nat.le_of_ble_eq_true rfl) d_Lm_sheet_26 [.int r12] rfl ?_
        obtain rfl := o_ret h
        exact g_iret (pc := 29) C d_Lm_sheet_29
    · have h := o_neg e5 h
      refine g_bipush (pc := 17) C (-2 : Int32) d_Lm_sheet_17 (by decide) ?_
      obtain rfl := o_ret h
      exact g_iret (pc := 19) C d_Lm_sheet_19
set_option maxRecDepth 20000 in
theorem k_Lm_sheet (l : Launch) {I : HI} {J : HJ} {N : HN} {a0 : Nat} {p1 : Int32} {p2 : Int32} {r : HI × HJ × Int32} (ha0 : gk Tc nC a0 (0, 10)) (h : Lm_sheet N a0 p1 p2 I J = some r) : gM l y_Lm_sheet c_Lm_sheet 3 (some .int) rm_Lm_sheet Tc nC I J N (fun ad => [.ref (ad a0), .int p1, .int p2]) (r.1, r.2.1, N, fun _ => some (.int r.2.2)) :=
  g_meth (lv := fun ad => [(0, .ref (ad a0)), (1, .int p1), (2, .int p2)]) (by decide) (fun _ => Nat.le_of_ble_eq_true rfl) (fun _ => rfl) (fun X ad C => g_lv [0, 1, 2] rfl (w_Lm_sheet_0 C ha0 h))
theorem d_Lm_lose_0 : decode c_Lm_lose 0 = .ok (.aload_n 0, 1) := by decide +kernel
theorem d_Lm_lose_1 : decode c_Lm_lose 1 = .ok (.iload_n 1, 1) := by decide +kernel
theorem d_Lm_lose_2 : decode c_Lm_lose 2 = .ok (.invokevirtual 110, 3) := by decide +kernel
theorem d_Lm_lose_5 : decode c_Lm_lose 5 = .ok (.istore_n 2, 1) := by decide +kernel
theorem d_Lm_lose_6 : decode c_Lm_lose 6 = .ok (.iload_n 2, 1) := by decide +kernel
theorem d_Lm_lose_7 : decode c_Lm_lose 7 = .ok (.ifCond .eq 5, 3) := by decide +kernel
theorem d_Lm_lose_10 : decode c_Lm_lose 10 = .ok (.iload_n 2, 1) := by decide +kernel
theorem d_Lm_lose_11 : decode c_Lm_lose 11 = .ok (.ireturn, 1) := by decide +kernel
theorem d_Lm_lose_12 : decode c_Lm_lose 12 = .ok (.aload_n 0, 1) := by decide +kernel
theorem d_Lm_lose_13 : decode c_Lm_lose 13 = .ok (.getfield 54, 3) := by decide +kernel
theorem d_Lm_lose_16 : decode c_Lm_lose 16 = .ok (.iload_n 1, 1) := by decide +kernel
theorem d_Lm_lose_17 : decode c_Lm_lose 17 = .ok (.invokevirtual 226, 3) := by decide +kernel
theorem d_Lm_lose_20 : decode c_Lm_lose 20 = .ok (.istore_n 3, 1) := by decide +kernel
theorem d_Lm_lose_21 : decode c_Lm_lose 21 = .ok (.aload_n 0, 1) := by decide +kernel
theorem d_Lm_lose_22 : decode c_Lm_lose 22 = .ok (.getfield 54, 3) := by decide +kernel
theorem d_Lm_lose_25 : decode c_Lm_lose 25 = .ok (.iload_n 1, 1) := by decide +kernel
theorem d_Lm_lose_26 : decode c_Lm_lose 26 = .ok (.invokevirtual 229, 3) := by decide +kernel
theorem d_Lm_lose_29 : decode c_Lm_lose 29 = .ok (.iload_n 3, 1) := by decide +kernel
theorem d_Lm_lose_30 : decode c_Lm_lose 30 = .ok (.ireturn, 1) := by decide +kernel
set_option maxRecDepth 20000 in
theorem w_Lm_lose_0 {X : HX} {ad : Nat → Nat} {I : HI} {J : HJ} {N : HN} {r : HI × Int32} {a0 : Nat} {p1 : Int32} (C : Cx X c_Lm_lose RX10 4 (some .int) rm_Lm_lose) (ha0 : gk Tc nC a0 (0, 10))
    (h : Lm_lose_0 N a0 p1 I = some r) : G Tc X ad nC 0 0 I J N (gE X Tc ad nC (r.1, J, N, fun _ => some (.int r.2))) 0 4 [(0, .ref (ad a0)), (1, .int p1)] [] := by
  refine g_aload_n (pc := 0) C d_Lm_lose_0 rfl 0 rfl ?_
  refine g_iload_n (pc := 1) C d_Lm_lose_1 rfl 1 rfl ?_
  obtain ⟨I1, r2, hc3, h⟩ := o_bn2 h
  refine g_V (pc := 2) (rest := []) C (k_Lm_sheetRefusal (xl X) ha0 hc3) sm_Lm_sheetRefusal ml_Lm_110 im_Lm_sheetRefusal se_Lm_sheetRefusal gcX10 rfl ha0 ⟨rfl, rfl, Nat.le_of_ble_eq_true rfl, Nat.le_of_ble_eq_true rfl⟩ ⟨Nat.zero_le _, Nat.zero_le _⟩ rfl rfl (Nat.le_of_ble_eq_true rfl) d_Lm_lose_2 [.int r2] rfl ?_
  refine g_istore_n (pc := 5) (lv' := [(2, .int r2), (0, .ref (ad a0)), (1, .int p1)]) C d_Lm_lose_5 rfl (by decide) rfl ?_
  refine g_iload_n (pc := 6) C d_Lm_lose_6 rfl 0 rfl ?_
  refine g_if_eq (pc := 7) C 12 d_Lm_lose_7 rfl (fun e4 => ?_) (fun e4 => ?_)
  · have h := o_pos e4 h
    refine g_aload_n (pc := 12) C d_Lm_lose_12 rfl 1 rfl ?_
    obtain ⟨b5, hnb5, hb5, h⟩ := o_rq h
    refine g_get (pc := 13) (k := 6) (v := va_rf ((N a0 6).map ad)) C gcX10 inX10 (by decide) fl_Lm_54 ha0 rfl d_Lm_lose_13 ?_
    refine g_top (g_rf hnb5) ?_
    refine g_iload_n (pc := 16) C d_Lm_lose_16 rfl 2 rfl ?_
    obtain ⟨r6, hc7, h⟩ := o_bn1 h
    refine g_V (pc := 17) (rest := []) C (k_Sh_size (xl X) hb5 hc7) sm_Sh_size ml_Lm_226 im_Sh_size se_Sh_size gcX8 rfl hb5 ⟨rfl, rfl, Nat.le_of_ble_eq_true rfl, Nat.le_of_ble_eq_true rfl⟩ ⟨Nat.zero_le _, Nat.zero_le _⟩ rfl rfl (Nat.le_of_ble_eq_true rfl) d_Lm_lose_17 [.int r6] rfl ?_
    refine g_istore_n (pc := 20) (lv' := [(3, .int r6), (2, .int r2), (0, .ref (ad a0)), (1, .int p1)]) C d_Lm_lose_20 rfl (by decide) rfl ?_
    refine g_aload_n (pc := 21) C d_Lm_lose_21 rfl 2 rfl ?_
    obtain ⟨b8, hnb8, hb8, h⟩ := o_rq h
    refine g_get (pc := 22) (k := 6) (v := va_rf ((N a0 6).map ad)) C gcX10 inX10 (by decide) fl_Lm_54 ha0 rfl d_Lm_lose_22 ?_
    refine g_top (g_rf hnb8) ?_
    refine g_iload_n (pc := 25) C d_Lm_lose_25 rfl 3 rfl ?_
    obtain ⟨I9, hc10, h⟩ := o_bn1 h
    refine g_V (pc := 26) (rest := []) C (k_Sh_forget (xl X) hb8 hc10) sm_Sh_forget ml_Lm_229 im_Sh_forget se_Sh_forget gcX8 rfl hb8 ⟨rfl, rfl, Nat.le_of_ble_eq_true rfl, Nat.le_of_ble_eq_true rfl⟩ ⟨Nat.zero_le _, Nat.zero_le _⟩ rfl rfl (Nat.le_of_ble_eq_true rfl) d_Lm_lose_26 [] rfl ?_
    refine g_iload_n (pc := 29) C d_Lm_lose_29 rfl 0 rfl ?_
    obtain rfl := o_ret h
    exact g_iret (pc := 30) C d_Lm_lose_30
  · have h := o_neg e4 h
    refine g_iload_n (pc := 10) C d_Lm_lose_10 rfl 0 rfl ?_
    obtain rfl := o_ret h
    exact g_iret (pc := 11) C d_Lm_lose_11
set_option maxRecDepth 20000 in
theorem k_Lm_lose (l : Launch) {I : HI} {J : HJ} {N : HN} {a0 : Nat} {p1 : Int32} {r : HI × Int32} (ha0 : gk Tc nC a0 (0, 10)) (h : Lm_lose N a0 p1 I = some r) : gM l y_Lm_lose c_Lm_lose 4 (some .int) rm_Lm_lose Tc nC I J N (fun ad => [.ref (ad a0), .int p1]) (r.1, J, N, fun _ => some (.int r.2)) :=
  g_meth (lv := fun ad => [(0, .ref (ad a0)), (1, .int p1)]) (by decide) (fun _ => Nat.le_of_ble_eq_true rfl) (fun _ => rfl) (fun X ad C => g_lv [0, 1] rfl (w_Lm_lose_0 C ha0 h))
theorem d_Lm_itemRefusal_0 : decode c_Lm_itemRefusal 0 = .ok (.aload_n 0, 1) := by decide +kernel
theorem d_Lm_itemRefusal_1 : decode c_Lm_itemRefusal 1 = .ok (.iload_n 1, 1) := by decide +kernel
theorem d_Lm_itemRefusal_2 : decode c_Lm_itemRefusal 2 = .ok (.invokevirtual 110, 3) := by decide +kernel
theorem d_Lm_itemRefusal_5 : decode c_Lm_itemRefusal 5 = .ok (.istore_n 3, 1) := by decide +kernel
theorem d_Lm_itemRefusal_6 : decode c_Lm_itemRefusal 6 = .ok (.iload_n 3, 1) := by decide +kernel
theorem d_Lm_itemRefusal_7 : decode c_Lm_itemRefusal 7 = .ok (.ifCond .eq 5, 3) := by decide +kernel
theorem d_Lm_itemRefusal_10 : decode c_Lm_itemRefusal 10 = .ok (.iload_n 3, 1) := by decide +kernel
theorem d_Lm_itemRefusal_11 : decode c_Lm_itemRefusal 11 = .ok (.ireturn, 1) := by decide +kernel
theorem d_Lm_itemRefusal_12 : decode c_Lm_itemRefusal 12 = .ok (.aload_n 0, 1) := by decide +kernel
theorem d_Lm_itemRefusal_13 : decode c_Lm_itemRefusal 13 = .ok (.getfield 54, 3) := by decide +kernel
theorem d_Lm_itemRefusal_16 : decode c_Lm_itemRefusal 16 = .ok (.iload_n 1, 1) := by decide +kernel
theorem d_Lm_itemRefusal_17 : decode c_Lm_itemRefusal 17 = .ok (.iload_n 2, 1) := by decide +kernel
theorem d_Lm_itemRefusal_18 : decode c_Lm_itemRefusal 18 = .ok (.iconst 1, 1) := by decide +kernel
theorem d_Lm_itemRefusal_19 : decode c_Lm_itemRefusal 19 = .ok (.invokevirtual 114, 3) := by decide +kernel
theorem d_Lm_itemRefusal_22 : decode c_Lm_itemRefusal 22 = .ok (.ifCond .eq 7, 3) := by decide +kernel
theorem d_Lm_itemRefusal_25 : decode c_Lm_itemRefusal 25 = .ok (.iconst 0, 1) := by decide +kernel
theorem d_Lm_itemRefusal_26 : decode c_Lm_itemRefusal 26 = .ok (.goto 8, 3) := by decide +kernel
theorem d_Lm_itemRefusal_29 : decode c_Lm_itemRefusal 29 = .ok (.aload_n 0, 1) := by decide +kernel
theorem d_Lm_itemRefusal_30 : decode c_Lm_itemRefusal 30 = .ok (.iconst 2, 1) := by decide +kernel
theorem d_Lm_itemRefusal_31 : decode c_Lm_itemRefusal 31 = .ok (.invokevirtual 118, 3) := by decide +kernel
theorem d_Lm_itemRefusal_34 : decode c_Lm_itemRefusal 34 = .ok (.ireturn, 1) := by decide +kernel
set_option maxRecDepth 20000 in
theorem w_Lm_itemRefusal_0 {X : HX} {ad : Nat → Nat} {I : HI} {J : HJ} {N : HN} {r : HI × Int32} {a0 : Nat} {p1 : Int32} {p2 : Int32} (C : Cx X c_Lm_itemRefusal RX10 4 (some .int) rm_Lm_itemRefusal) (ha0 : gk Tc nC a0 (0, 10))
    (h : Lm_itemRefusal_0 N a0 p1 p2 I = some r) : G Tc X ad nC 0 0 I J N (gE X Tc ad nC (r.1, J, N, fun _ => some (.int r.2))) 0 4 [(0, .ref (ad a0)), (1, .int p1), (2, .int p2)] [] := by
  refine g_aload_n (pc := 0) C d_Lm_itemRefusal_0 rfl 0 rfl ?_
  refine g_iload_n (pc := 1) C d_Lm_itemRefusal_1 rfl 1 rfl ?_
  obtain ⟨I1, r2, hc3, h⟩ := o_bn2 h
  refine g_V (pc := 2) (rest := []) C (k_Lm_sheetRefusal (xl X) ha0 hc3) sm_Lm_sheetRefusal ml_Lm_110 im_Lm_sheetRefusal se_Lm_sheetRefusal gcX10 rfl ha0 ⟨rfl, rfl, Nat.le_of_ble_eq_true rfl, Nat.le_of_ble_eq_true rfl⟩ ⟨Nat.zero_le _, Nat.zero_le _⟩ rfl rfl (Nat.le_of_ble_eq_true rfl) d_Lm_itemRefusal_2 [.int r2] rfl ?_
  refine g_istore_n (pc := 5) (lv' := [(3, .int r2), (0, .ref (ad a0)), (1, .int p1), (2, .int p2)]) C d_Lm_itemRefusal_5 rfl (by decide) rfl ?_
  refine g_iload_n (pc := 6) C d_Lm_itemRefusal_6 rfl 0 rfl ?_
  refine g_if_eq (pc := 7) C 12 d_Lm_itemRefusal_7 rfl (fun e4 => ?_) (fun e4 => ?_)
  · have h := o_pos e4 h
    refine g_aload_n (pc := 12) C d_Lm_itemRefusal_12 rfl 1 rfl ?_
    obtain ⟨b5, hnb5, hb5, h⟩ := o_rq h
    refine g_get (pc := 13) (k := 6) (v := va_rf ((N a0 6).map ad)) C gcX10 inX10 (by decide) fl_Lm_54 ha0 rfl d_Lm_itemRefusal_13 ?_
    refine g_top (g_rf hnb5) ?_
    refine g_iload_n (pc := 16) C d_Lm_itemRefusal_16 rfl 2 rfl ?_
    refine g_iload_n (pc := 17) C d_Lm_itemRefusal_17 rfl 3 rfl ?_
    refine g_iconst (pc := 18) C (1 : Int32) d_Lm_itemRefusal_18 (by decide) ?_
    obtain ⟨r6, hc7, h⟩ := o_bn1 h
    refine g_V (pc := 19) (rest := []) C (k_Sh_hasRun (xl X) hb5 hc7) sm_Sh_hasRun ml_Lm_114 im_Sh_hasRun se_Sh_hasRun gcX8 rfl hb5 ⟨rfl, rfl, Nat.le_of_ble_eq_true rfl, Nat.le_of_ble_eq_true rfl⟩ ⟨Nat.zero_le _, Nat.zero_le _⟩ rfl rfl (Nat.le_of_ble_eq_true rfl) d_Lm_itemRefusal_19 [.int r6] rfl ?_
    refine g_if_eq (pc := 22) C 29 d_Lm_itemRefusal_22 rfl (fun e8 => ?_) (fun e8 => ?_)
    · have h := o_pos e8 h
      refine g_aload_n (pc := 29) C d_Lm_itemRefusal_29 rfl 1 rfl ?_
      refine g_iconst (pc := 30) C (2 : Int32) d_Lm_itemRefusal_30 (by decide) ?_
      obtain ⟨I9, r10, hc11, h⟩ := o_bn2 h
      refine g_V (pc := 31) (rest := []) C (k_Lm_finding (xl X) ha0 hc11) sm_Lm_finding ml_Lm_118 im_Lm_finding se_Lm_finding gcX10 rfl ha0 ⟨rfl, rfl, Nat.le_of_ble_eq_true rfl, Nat.le_of_ble_eq_true rfl⟩ ⟨Nat.zero_le _, Nat.zero_le _⟩ rfl rfl (Nat.le_of_ble_eq_true rfl) d_Lm_itemRefusal_31 [.int r10] rfl ?_
      obtain rfl := o_ret h
      exact g_iret (pc := 34) C d_Lm_itemRefusal_34
    · have h := o_neg e8 h
      refine g_iconst (pc := 25) C (0 : Int32) d_Lm_itemRefusal_25 (by decide) ?_
      refine g_goto (pc := 26) C 34 d_Lm_itemRefusal_26 rfl ?_
      obtain rfl := o_ret h
      exact g_iret (pc := 34) C d_Lm_itemRefusal_34
  · have h := o_neg e4 h
    refine g_iload_n (pc := 10) C d_Lm_itemRefusal_10 rfl 0 rfl ?_
    obtain rfl := o_ret h
    exact g_iret (pc := 11) C d_Lm_itemRefusal_11
set_option maxRecDepth 20000 in
theorem k_Lm_itemRefusal (l : Launch) {I : HI} {J : HJ} {N : HN} {a0 : Nat} {p1 : Int32} {p2 : Int32} {r : HI × Int32} (ha0 : gk Tc nC a0 (0, 10)) (h : Lm_itemRefusal N a0 p1 p2 I = some r) : gM l y_Lm_itemRefusal c_Lm_itemRefusal 4 (some .int) rm_Lm_itemRefusal Tc nC I J N (fun ad => [.ref (ad a0), .int p1, .int p2]) (r.1, J, N, fun _ => some (.int r.2)) :=
  g_meth (lv := fun ad => [(0, .ref (ad a0)), (1, .int p1), (2, .int p2)]) (by decide) (fun _ => Nat.le_of_ble_eq_true rfl) (fun _ => rfl) (fun X ad C => g_lv [0, 1, 2] rfl (w_Lm_itemRefusal_0 C ha0 h))
theorem d_Lm_lay_0 : decode c_Lm_lay 0 = .ok (.aload_n 0, 1) := by decide +kernel
theorem d_Lm_lay_1 : decode c_Lm_lay 1 = .ok (.iload_n 1, 1) := by decide +kernel
theorem d_Lm_lay_2 : decode c_Lm_lay 2 = .ok (.iload_n 2, 1) := by decide +kernel
theorem d_Lm_lay_3 : decode c_Lm_lay 3 = .ok (.invokevirtual 232, 3) := by decide +kernel
theorem d_Lm_lay_6 : decode c_Lm_lay 6 = .ok (.istore 4, 2) := by decide +kernel
theorem d_Lm_lay_8 : decode c_Lm_lay 8 = .ok (.iload 4, 2) := by decide +kernel
theorem d_Lm_lay_10 : decode c_Lm_lay 10 = .ok (.ifCond .eq 6, 3) := by decide +kernel
theorem d_Lm_lay_13 : decode c_Lm_lay 13 = .ok (.iload 4, 2) := by decide +kernel
theorem d_Lm_lay_15 : decode c_Lm_lay 15 = .ok (.ireturn, 1) := by decide +kernel
theorem d_Lm_lay_16 : decode c_Lm_lay 16 = .ok (.aload_n 0, 1) := by decide +kernel
theorem d_Lm_lay_17 : decode c_Lm_lay 17 = .ok (.getfield 54, 3) := by decide +kernel
theorem d_Lm_lay_20 : decode c_Lm_lay 20 = .ok (.iload_n 1, 1) := by decide +kernel
theorem d_Lm_lay_21 : decode c_Lm_lay 21 = .ok (.iload_n 2, 1) := by decide +kernel
theorem d_Lm_lay_22 : decode c_Lm_lay 22 = .ok (.iload_n 3, 1) := by decide +kernel
theorem d_Lm_lay_23 : decode c_Lm_lay 23 = .ok (.i2l, 1) := by decide +kernel
theorem d_Lm_lay_24 : decode c_Lm_lay 24 = .ok (.invokevirtual 235, 3) := by decide +kernel
theorem d_Lm_lay_27 : decode c_Lm_lay 27 = .ok (.iconst 1, 1) := by decide +kernel
theorem d_Lm_lay_28 : decode c_Lm_lay 28 = .ok (.ireturn, 1) := by decide +kernel
set_option maxRecDepth 20000 in
theorem w_Lm_lay_0 {X : HX} {ad : Nat → Nat} {I : HI} {J : HJ} {N : HN} {r : HI × HJ × Int32} {a0 : Nat} {p1 : Int32} {p2 : Int32} {p3 : Int32} (C : Cx X c_Lm_lay RX10 5 (some .int) rm_Lm_lay) (ha0 : gk Tc nC a0 (0, 10))
    (h : Lm_lay_0 N a0 p1 p2 p3 I J = some r) : G Tc X ad nC 0 0 I J N (gE X Tc ad nC (r.1, r.2.1, N, fun _ => some (.int r.2.2))) 0 5 [(0, .ref (ad a0)), (1, .int p1), (2, .int p2), (3, .int p3)] [] := by
  refine g_aload_n (pc := 0) C d_Lm_lay_0 rfl 0 rfl ?_
  refine g_iload_n (pc := 1) C d_Lm_lay_1 rfl 1 rfl ?_
  refine g_iload_n (pc := 2) C d_Lm_lay_2 rfl 2 rfl ?_
  obtain ⟨I1, r2, hc3, h⟩ := o_bn2 h
  refine g_V (pc := 3) (rest := []) C (k_Lm_itemRefusal (xl X) ha0 hc3) sm_Lm_itemRefusal ml_Lm_232 im_Lm_itemRefusal se_Lm_itemRefusal gcX10 rfl ha0 ⟨rfl, rfl, Nat.le_of_ble_eq_true rfl, Nat.le_of_ble_eq_true rfl⟩ ⟨Nat.zero_le _, Nat.zero_le _⟩ rfl rfl (Nat.le_of_ble_eq_true rfl) d_Lm_lay_3 [.int r2] rfl ?_
  refine g_istore (pc := 6) (lv' := [(4, .int r2), (0, .ref (ad a0)), (1, .int p1), (2, .int p2), (3, .int p3)]) C d_Lm_lay_6 (by decide) rfl ?_
  refine g_iload (pc := 8) C d_Lm_lay_8 0 rfl ?_
  refine g_if_eq (pc := 10) C 16 d_Lm_lay_10 rfl (fun e4 => ?_) (fun e4 => ?_)
  · have h := o_pos e4 h
    refine g_aload_n (pc := 16) C d_Lm_lay_16 rfl 1 rfl ?_
    obtain ⟨b5, hnb5, hb5, h⟩ := o_rq h
    refine g_get (pc := 17) (k := 6) (v := va_rf ((N a0 6).map ad)) C gcX10 inX10 (by decide) fl_Lm_54 ha0 rfl d_Lm_lay_17 ?_
    refine g_top (g_rf hnb5) ?_
    refine g_iload_n (pc := 20) C d_Lm_lay_20 rfl 2 rfl ?_
    refine g_iload_n (pc := 21) C d_Lm_lay_21 rfl 3 rfl ?_
    refine g_iload_n (pc := 22) C d_Lm_lay_22 rfl 4 rfl ?_
    refine g_i2l (pc := 23) C d_Lm_lay_23 ?_
    obtain ⟨J6, hc7, h⟩ := o_bn1 h
    refine g_V (pc := 24) (rest := []) C (k_Sh_put (xl X) hb5 hc7) sm_Sh_put ml_Lm_235 im_Sh_put se_Sh_put gcX8 rfl hb5 ⟨rfl, rfl, Nat.le_of_ble_eq_true rfl, Nat.le_of_ble_eq_true rfl⟩ ⟨Nat.zero_le _, Nat.zero_le _⟩ rfl rfl (Nat.le_of_ble_eq_true rfl) d_Lm_lay_24 [] rfl ?_
    refine g_iconst (pc := 27) C (1 : Int32) d_Lm_lay_27 (by decide) ?_
    obtain rfl := o_ret h
    exact g_iret (pc := 28) C d_Lm_lay_28
  · have h := o_neg e4 h
    refine g_iload (pc := 13) C d_Lm_lay_13 0 rfl ?_
    obtain rfl := o_ret h
    exact g_iret (pc := 15) C d_Lm_lay_15
set_option maxRecDepth 20000 in
theorem k_Lm_lay (l : Launch) {I : HI} {J : HJ} {N : HN} {a0 : Nat} {p1 : Int32} {p2 : Int32} {p3 : Int32} {r : HI × HJ × Int32} (ha0 : gk Tc nC a0 (0, 10)) (h : Lm_lay N a0 p1 p2 p3 I J = some r) : gM l y_Lm_lay c_Lm_lay 5 (some .int) rm_Lm_lay Tc nC I J N (fun ad => [.ref (ad a0), .int p1, .int p2, .int p3]) (r.1, r.2.1, N, fun _ => some (.int r.2.2)) :=
  g_meth (lv := fun ad => [(0, .ref (ad a0)), (1, .int p1), (2, .int p2), (3, .int p3)]) (by decide) (fun _ => Nat.le_of_ble_eq_true rfl) (fun _ => rfl) (fun X ad C => g_lv [0, 1, 2, 3] rfl (w_Lm_lay_0 C ha0 h))
theorem d_Lm_get_0 : decode c_Lm_get 0 = .ok (.aload_n 0, 1) := by decide +kernel
theorem d_Lm_get_1 : decode c_Lm_get 1 = .ok (.iload_n 1, 1) := by decide +kernel
theorem d_Lm_get_2 : decode c_Lm_get 2 = .ok (.iload_n 2, 1) := by decide +kernel
theorem d_Lm_get_3 : decode c_Lm_get 3 = .ok (.invokevirtual 232, 3) := by decide +kernel
theorem d_Lm_get_6 : decode c_Lm_get 6 = .ok (.istore_n 3, 1) := by decide +kernel
theorem d_Lm_get_7 : decode c_Lm_get 7 = .ok (.iload_n 3, 1) := by decide +kernel
theorem d_Lm_get_8 : decode c_Lm_get 8 = .ok (.ifCond .eq 10, 3) := by decide +kernel
theorem d_Lm_get_11 : decode c_Lm_get 11 = .ok (.iload_n 3, 1) := by decide +kernel
theorem d_Lm_get_12 : decode c_Lm_get 12 = .ok (.invokestatic 134, 3) := by decide +kernel
theorem d_Lm_get_15 : decode c_Lm_get 15 = .ok (.goto 12, 3) := by decide +kernel
theorem d_Lm_get_18 : decode c_Lm_get 18 = .ok (.aload_n 0, 1) := by decide +kernel
theorem d_Lm_get_19 : decode c_Lm_get 19 = .ok (.getfield 54, 3) := by decide +kernel
theorem d_Lm_get_22 : decode c_Lm_get 22 = .ok (.iload_n 1, 1) := by decide +kernel
theorem d_Lm_get_23 : decode c_Lm_get 23 = .ok (.iload_n 2, 1) := by decide +kernel
theorem d_Lm_get_24 : decode c_Lm_get 24 = .ok (.invokevirtual 121, 3) := by decide +kernel
theorem d_Lm_get_27 : decode c_Lm_get 27 = .ok (.lreturn, 1) := by decide +kernel
set_option maxRecDepth 20000 in
theorem w_Lm_get_0 {X : HX} {ad : Nat → Nat} {I : HI} {J : HJ} {N : HN} {r : HI × Int64} {a0 : Nat} {p1 : Int32} {p2 : Int32} (C : Cx X c_Lm_get RX10 4 (some .long) rm_Lm_get) (ha0 : gk Tc nC a0 (0, 10))
    (h : Lm_get_0 J N a0 p1 p2 I = some r) : G Tc X ad nC 0 0 I J N (gE X Tc ad nC (r.1, J, N, fun _ => some (.long r.2))) 0 4 [(0, .ref (ad a0)), (1, .int p1), (2, .int p2)] [] := by
  refine g_aload_n (pc := 0) C d_Lm_get_0 rfl 0 rfl ?_
  refine g_iload_n (pc := 1) C d_Lm_get_1 rfl 1 rfl ?_
  refine g_iload_n (pc := 2) C d_Lm_get_2 rfl 2 rfl ?_
  obtain ⟨I1, r2, hc3, h⟩ := o_bn2 h
  refine g_V (pc := 3) (rest := []) C (k_Lm_itemRefusal (xl X) ha0 hc3) sm_Lm_itemRefusal ml_Lm_232 im_Lm_itemRefusal se_Lm_itemRefusal gcX10 rfl ha0 ⟨rfl, rfl, Nat.le_of_ble_eq_true rfl, Nat.le_of_ble_eq_true rfl⟩ ⟨Nat.zero_le _, Nat.zero_le _⟩ rfl rfl (Nat.le_of_ble_eq_true rfl) d_Lm_get_3 [.int r2] rfl ?_
  refine g_istore_n (pc := 6) (lv' := [(3, .int r2), (0, .ref (ad a0)), (1, .int p1), (2, .int p2)]) C d_Lm_get_6 rfl (by decide) rfl ?_
  refine g_iload_n (pc := 7) C d_Lm_get_7 rfl 0 rfl ?_
  refine g_if_eq (pc := 8) C 18 d_Lm_get_8 rfl (fun e4 => ?_) (fun e4 => ?_)
  · have h := o_pos e4 h
    refine g_aload_n (pc := 18) C d_Lm_get_18 rfl 1 rfl ?_
    obtain ⟨b5, hnb5, hb5, h⟩ := o_rq h
    refine g_get (pc := 19) (k := 6) (v := va_rf ((N a0 6).map ad)) C gcX10 inX10 (by decide) fl_Lm_54 ha0 rfl d_Lm_get_19 ?_
    refine g_top (g_rf hnb5) ?_
    refine g_iload_n (pc := 22) C d_Lm_get_22 rfl 2 rfl ?_
    refine g_iload_n (pc := 23) C d_Lm_get_23 rfl 3 rfl ?_
    obtain ⟨r6, hc7, h⟩ := o_bn1 h
    refine g_V (pc := 24) (rest := []) C (k_Sh_item (xl X) hb5 hc7) sm_Sh_item ml_Lm_121 im_Sh_item se_Sh_item gcX8 rfl hb5 ⟨rfl, rfl, Nat.le_of_ble_eq_true rfl, Nat.le_of_ble_eq_true rfl⟩ ⟨Nat.zero_le _, Nat.zero_le _⟩ rfl rfl (Nat.le_of_ble_eq_true rfl) d_Lm_get_24 [.long r6] rfl ?_
    obtain rfl := o_ret h
    exact g_lret (pc := 27) C d_Lm_get_27
  · have h := o_neg e4 h
    refine g_iload_n (pc := 11) C d_Lm_get_11 rfl 0 rfl ?_
    obtain ⟨r8, hc9, h⟩ := o_bn1 h
    refine g_S (pc := 12) (rest := []) C (k_Lm_asLong (xl X)  hc9) sm_Lm_asLong ml_Lm_134 st_Lm_asLong ⟨rfl, rfl, Nat.le_of_ble_eq_true rfl, Nat.le_of_ble_eq_true rfl⟩ ⟨Nat.zero_le _, Nat.zero_le _⟩ rfl rfl (Nat.le_of_ble_eq_true rfl) d_Lm_get_12 [.long r8] rfl ?_
    refine g_goto (pc := 15) C 27 d_Lm_get_15 rfl ?_
    obtain rfl := o_ret h
    exact g_lret (pc := 27) C d_Lm_get_27
set_option maxRecDepth 20000 in
theorem k_Lm_get (l : Launch) {I : HI} {J : HJ} {N : HN} {a0 : Nat} {p1 : Int32} {p2 : Int32} {r : HI × Int64} (ha0 : gk Tc nC a0 (0, 10)) (h : Lm_get J N a0 p1 p2 I = some r) : gM l y_Lm_get c_Lm_get 4 (some .long) rm_Lm_get Tc nC I J N (fun ad => [.ref (ad a0), .int p1, .int p2]) (r.1, J, N, fun _ => some (.long r.2)) :=
  g_meth (lv := fun ad => [(0, .ref (ad a0)), (1, .int p1), (2, .int p2)]) (by decide) (fun _ => Nat.le_of_ble_eq_true rfl) (fun _ => rfl) (fun X ad C => g_lv [0, 1, 2] rfl (w_Lm_get_0 C ha0 h))
theorem d_Lm_copy_0 : decode c_Lm_copy 0 = .ok (.aload_n 0, 1) := by decide +kernel
theorem d_Lm_copy_1 : decode c_Lm_copy 1 = .ok (.getfield 54, 3) := by decide +kernel
theorem d_Lm_copy_4 : decode c_Lm_copy 4 = .ok (.iload_n 1, 1) := by decide +kernel
theorem d_Lm_copy_5 : decode c_Lm_copy 5 = .ok (.invokevirtual 219, 3) := by decide +kernel
theorem d_Lm_copy_8 : decode c_Lm_copy 8 = .ok (.ifCond .eq 14, 3) := by decide +kernel
theorem d_Lm_copy_11 : decode c_Lm_copy 11 = .ok (.aload_n 0, 1) := by decide +kernel
theorem d_Lm_copy_12 : decode c_Lm_copy 12 = .ok (.getfield 54, 3) := by decide +kernel
theorem d_Lm_copy_15 : decode c_Lm_copy 15 = .ok (.iload_n 3, 1) := by decide +kernel
theorem d_Lm_copy_16 : decode c_Lm_copy 16 = .ok (.invokevirtual 219, 3) := by decide +kernel
theorem d_Lm_copy_19 : decode c_Lm_copy 19 = .ok (.ifCond .ne 6, 3) := by decide +kernel
theorem d_Lm_copy_22 : decode c_Lm_copy 22 = .ok (.bipush (-2), 2) := by decide +kernel
theorem d_Lm_copy_24 : decode c_Lm_copy 24 = .ok (.ireturn, 1) := by decide +kernel
theorem d_Lm_copy_25 : decode c_Lm_copy 25 = .ok (.aload_n 0, 1) := by decide +kernel
theorem d_Lm_copy_26 : decode c_Lm_copy 26 = .ok (.getfield 54, 3) := by decide +kernel
theorem d_Lm_copy_29 : decode c_Lm_copy 29 = .ok (.iload_n 1, 1) := by decide +kernel
theorem d_Lm_copy_30 : decode c_Lm_copy 30 = .ok (.invokevirtual 238, 3) := by decide +kernel
theorem d_Lm_copy_33 : decode c_Lm_copy 33 = .ok (.ifCond .ne 14, 3) := by decide +kernel
theorem d_Lm_copy_36 : decode c_Lm_copy 36 = .ok (.aload_n 0, 1) := by decide +kernel
theorem d_Lm_copy_37 : decode c_Lm_copy 37 = .ok (.getfield 54, 3) := by decide +kernel
theorem d_Lm_copy_40 : decode c_Lm_copy 40 = .ok (.iload_n 3, 1) := by decide +kernel
theorem d_Lm_copy_41 : decode c_Lm_copy 41 = .ok (.invokevirtual 238, 3) := by decide +kernel
theorem d_Lm_copy_44 : decode c_Lm_copy 44 = .ok (.ifCond .eq 9, 3) := by decide +kernel
theorem d_Lm_copy_47 : decode c_Lm_copy 47 = .ok (.aload_n 0, 1) := by decide +kernel
theorem d_Lm_copy_48 : decode c_Lm_copy 48 = .ok (.iconst 1, 1) := by decide +kernel
theorem d_Lm_copy_49 : decode c_Lm_copy 49 = .ok (.invokevirtual 118, 3) := by decide +kernel
theorem d_Lm_copy_52 : decode c_Lm_copy 52 = .ok (.ireturn, 1) := by decide +kernel
theorem d_Lm_copy_53 : decode c_Lm_copy 53 = .ok (.aload_n 0, 1) := by decide +kernel
theorem d_Lm_copy_54 : decode c_Lm_copy 54 = .ok (.getfield 54, 3) := by decide +kernel
theorem d_Lm_copy_57 : decode c_Lm_copy 57 = .ok (.iload_n 1, 1) := by decide +kernel
theorem d_Lm_copy_58 : decode c_Lm_copy 58 = .ok (.iload_n 2, 1) := by decide +kernel
theorem d_Lm_copy_59 : decode c_Lm_copy 59 = .ok (.iload 5, 2) := by decide +kernel
theorem d_Lm_copy_61 : decode c_Lm_copy 61 = .ok (.invokevirtual 114, 3) := by decide +kernel
theorem d_Lm_copy_64 : decode c_Lm_copy 64 = .ok (.ifCond .eq 18, 3) := by decide +kernel
theorem d_Lm_copy_67 : decode c_Lm_copy 67 = .ok (.aload_n 0, 1) := by decide +kernel
theorem d_Lm_copy_68 : decode c_Lm_copy 68 = .ok (.getfield 54, 3) := by decide +kernel
theorem d_Lm_copy_71 : decode c_Lm_copy 71 = .ok (.iload_n 3, 1) := by decide +kernel
theorem d_Lm_copy_72 : decode c_Lm_copy 72 = .ok (.iload 4, 2) := by decide +kernel
theorem d_Lm_copy_74 : decode c_Lm_copy 74 = .ok (.iload 5, 2) := by decide +kernel
theorem d_Lm_copy_76 : decode c_Lm_copy 76 = .ok (.invokevirtual 114, 3) := by decide +kernel
theorem d_Lm_copy_79 : decode c_Lm_copy 79 = .ok (.ifCond .ne 9, 3) := by decide +kernel
theorem d_Lm_copy_82 : decode c_Lm_copy 82 = .ok (.aload_n 0, 1) := by decide +kernel
theorem d_Lm_copy_83 : decode c_Lm_copy 83 = .ok (.iconst 2, 1) := by decide +kernel
theorem d_Lm_copy_84 : decode c_Lm_copy 84 = .ok (.invokevirtual 118, 3) := by decide +kernel
theorem d_Lm_copy_87 : decode c_Lm_copy 87 = .ok (.ireturn, 1) := by decide +kernel
theorem d_Lm_copy_88 : decode c_Lm_copy 88 = .ok (.aload_n 0, 1) := by decide +kernel
theorem d_Lm_copy_89 : decode c_Lm_copy 89 = .ok (.getfield 54, 3) := by decide +kernel
theorem d_Lm_copy_92 : decode c_Lm_copy 92 = .ok (.iload_n 1, 1) := by decide +kernel
theorem d_Lm_copy_93 : decode c_Lm_copy 93 = .ok (.iload_n 2, 1) := by decide +kernel
theorem d_Lm_copy_94 : decode c_Lm_copy 94 = .ok (.iload_n 3, 1) := by decide +kernel
theorem d_Lm_copy_95 : decode c_Lm_copy 95 = .ok (.iload 4, 2) := by decide +kernel
theorem d_Lm_copy_97 : decode c_Lm_copy 97 = .ok (.iload 5, 2) := by decide +kernel
theorem d_Lm_copy_99 : decode c_Lm_copy 99 = .ok (.invokevirtual 241, 3) := by decide +kernel
theorem d_Lm_copy_102 : decode c_Lm_copy 102 = .ok (.iconst 1, 1) := by decide +kernel
theorem d_Lm_copy_103 : decode c_Lm_copy 103 = .ok (.ireturn, 1) := by decide +kernel
set_option maxRecDepth 20000 in
theorem w_Lm_copy_82 {X : HX} {ad : Nat → Nat} {I : HI} {J : HJ} {N : HN} {r : HI × HJ × Int32} {a0 : Nat} {p1 : Int32} {p2 : Int32} {p3 : Int32} {p4 : Int32} {p5 : Int32} (C : Cx X c_Lm_copy RX10 6 (some .int) rm_Lm_copy) (ha0 : gk Tc nC a0 (0, 10))
    (h : Lm_copy_82 N a0 p1 p2 p3 p4 p5 I J = some r) : G Tc X ad nC 0 0 I J N (gE X Tc ad nC (r.1, r.2.1, N, fun _ => some (.int r.2.2))) 82 6 [(0, .ref (ad a0))] [] := by
  refine g_aload_n (pc := 82) C d_Lm_copy_82 rfl 0 rfl ?_
  refine g_iconst (pc := 83) C (2 : Int32) d_Lm_copy_83 (by decide) ?_
  obtain ⟨I1, r2, hc3, h⟩ := o_bn2 h
  refine g_V (pc := 84) (rest := []) C (k_Lm_finding (xl X) ha0 hc3) sm_Lm_finding ml_Lm_118 im_Lm_finding se_Lm_finding gcX10 rfl ha0 ⟨rfl, rfl, Nat.le_of_ble_eq_true rfl, Nat.le_of_ble_eq_true rfl⟩ ⟨Nat.zero_le _, Nat.zero_le _⟩ rfl rfl (Nat.le_of_ble_eq_true rfl) d_Lm_copy_84 [.int r2] rfl ?_
  obtain rfl := o_ret h
  exact g_iret (pc := 87) C d_Lm_copy_87
set_option maxRecDepth 20000 in
theorem w_Lm_copy_47 {X : HX} {ad : Nat → Nat} {I : HI} {J : HJ} {N : HN} {r : HI × HJ × Int32} {a0 : Nat} {p1 : Int32} {p2 : Int32} {p3 : Int32} {p4 : Int32} {p5 : Int32} (C : Cx X c_Lm_copy RX10 6 (some .int) rm_Lm_copy) (ha0 : gk Tc nC a0 (0, 10))
    (h : Lm_copy_47 N a0 p1 p2 p3 p4 p5 I J = some r) : G Tc X ad nC 0 0 I J N (gE X Tc ad nC (r.1, r.2.1, N, fun _ => some (.int r.2.2))) 47 6 [(0, .ref (ad a0))] [] := by
  refine g_aload_n (pc := 47) C d_Lm_copy_47 rfl 0 rfl ?_
  refine g_iconst (pc := 48) C (1 : Int32) d_Lm_copy_48 (by decide) ?_
  obtain ⟨I1, r2, hc3, h⟩ := o_bn2 h
  refine g_V (pc := 49) (rest := []) C (k_Lm_finding (xl X) ha0 hc3) sm_Lm_finding ml_Lm_118 im_Lm_finding se_Lm_finding gcX10 rfl ha0 ⟨rfl, rfl, Nat.le_of_ble_eq_true rfl, Nat.le_of_ble_eq_true rfl⟩ ⟨Nat.zero_le _, Nat.zero_le _⟩ rfl rfl (Nat.le_of_ble_eq_true rfl) d_Lm_copy_49 [.int r2] rfl ?_
  obtain rfl := o_ret h
  exact g_iret (pc := 52) C d_Lm_copy_52
set_option maxRecDepth 20000 in
theorem w_Lm_copy_0 {X : HX} {ad : Nat → Nat} {I : HI} {J : HJ} {N : HN} {r : HI × HJ × Int32} {a0 : Nat} {p1 : Int32} {p2 : Int32} {p3 : Int32} {p4 : Int32} {p5 : Int32} (C : Cx X c_Lm_copy RX10 6 (some .int) rm_Lm_copy) (ha0 : gk Tc nC a0 (0, 10))
    (h : Lm_copy_0 N a0 p1 p2 p3 p4 p5 I J = some r) : G Tc X ad nC 0 0 I J N (gE X Tc ad nC (r.1, r.2.1, N, fun _ => some (.int r.2.2))) 0 6 [(0, .ref (ad a0)), (1, .int p1), (2, .int p2), (3, .int p3), (4, .int p4), (5, .int p5)] [] := by
  refine g_aload_n (pc := 0) C d_Lm_copy_0 rfl 0 rfl ?_
  obtain ⟨b1, hnb1, hb1, h⟩ := o_rq h
  refine g_get (pc := 1) (k := 6) (v := va_rf ((N a0 6).map ad)) C gcX10 inX10 (by decide) fl_Lm_54 ha0 rfl d_Lm_copy_1 ?_
  refine g_top (g_rf hnb1) ?_
  refine g_iload_n (pc := 4) C d_Lm_copy_4 rfl 1 rfl ?_
  obtain ⟨r2, hc3, h⟩ := o_bn1 h
  refine g_V (pc := 5) (rest := []) C (k_Sh_isSheet (xl X) hb1 hc3) sm_Sh_isSheet ml_Lm_219 im_Sh_isSheet se_Sh_isSheet gcX8 rfl hb1 ⟨rfl, rfl, Nat.le_of_ble_eq_true rfl, Nat.le_of_ble_eq_true rfl⟩ ⟨Nat.zero_le _, Nat.zero_le _⟩ rfl rfl (Nat.le_of_ble_eq_true rfl) d_Lm_copy_5 [.int r2] rfl ?_
  refine g_if_eq (pc := 8) C 22 d_Lm_copy_8 rfl (fun e4 => ?_) (fun e4 => ?_)
  · have h := o_pos e4 h
    refine g_bipush (pc := 22) C (-2 : Int32) d_Lm_copy_22 (by decide) ?_
    obtain rfl := o_ret h
    exact g_iret (pc := 24) C d_Lm_copy_24
  · have h := o_neg e4 h
    refine g_aload_n (pc := 11) C d_Lm_copy_11 rfl 0 rfl ?_
    obtain ⟨b5, hnb5, hb5, h⟩ := o_rq h
    refine g_get (pc := 12) (k := 6) (v := va_rf ((N a0 6).map ad)) C gcX10 inX10 (by decide) fl_Lm_54 ha0 rfl d_Lm_copy_12 ?_
    refine g_top (g_rf hnb5) ?_
    refine g_iload_n (pc := 15) C d_Lm_copy_15 rfl 3 rfl ?_
    obtain ⟨r6, hc7, h⟩ := o_bn1 h
    refine g_V (pc := 16) (rest := []) C (k_Sh_isSheet (xl X) hb5 hc7) sm_Sh_isSheet ml_Lm_219 im_Sh_isSheet se_Sh_isSheet gcX8 rfl hb5 ⟨rfl, rfl, Nat.le_of_ble_eq_true rfl, Nat.le_of_ble_eq_true rfl⟩ ⟨Nat.zero_le _, Nat.zero_le _⟩ rfl rfl (Nat.le_of_ble_eq_true rfl) d_Lm_copy_16 [.int r6] rfl ?_
    refine g_if_ne (pc := 19) C 25 d_Lm_copy_19 rfl (fun e8 => ?_) (fun e8 => ?_)
    · have h := o_neg e8 h
      refine g_aload_n (pc := 25) C d_Lm_copy_25 rfl 0 rfl ?_
      obtain ⟨b9, hnb9, hb9, h⟩ := o_rq h
      refine g_get (pc := 26) (k := 6) (v := va_rf ((N a0 6).map ad)) C gcX10 inX10 (by decide) fl_Lm_54 ha0 rfl d_Lm_copy_26 ?_
      refine g_top (g_rf hnb9) ?_
      refine g_iload_n (pc := 29) C d_Lm_copy_29 rfl 1 rfl ?_
      obtain ⟨r10, hc11, h⟩ := o_bn1 h
      refine g_V (pc := 30) (rest := []) C (k_Sh_isLost (xl X) hb9 hc11) sm_Sh_isLost ml_Lm_238 im_Sh_isLost se_Sh_isLost gcX8 rfl hb9 ⟨rfl, rfl, Nat.le_of_ble_eq_true rfl, Nat.le_of_ble_eq_true rfl⟩ ⟨Nat.zero_le _, Nat.zero_le _⟩ rfl rfl (Nat.le_of_ble_eq_true rfl) d_Lm_copy_30 [.int r10] rfl ?_
      refine g_if_ne (pc := 33) C 47 d_Lm_copy_33 rfl (fun e12 => ?_) (fun e12 => ?_)
      · have h := o_neg e12 h
        refine g_lv [0] rfl ?_
        exact w_Lm_copy_47 C ha0 h
      · have h := o_pos e12 h
        refine g_aload_n (pc := 36) C d_Lm_copy_36 rfl 0 rfl ?_
        obtain ⟨b13, hnb13, hb13, h⟩ := o_rq h
        refine g_get (pc := 37) (k := 6) (v := va_rf ((N a0 6).map ad)) C gcX10 inX10 (by decide) fl_Lm_54 ha0 rfl d_Lm_copy_37 ?_
        refine g_top (g_rf hnb13) ?_
        refine g_iload_n (pc := 40) C d_Lm_copy_40 rfl 3 rfl ?_
        obtain ⟨r14, hc15, h⟩ := o_bn1 h
        refine g_V (pc := 41) (rest := []) C (k_Sh_isLost (xl X) hb13 hc15) sm_Sh_isLost ml_Lm_238 im_Sh_isLost se_Sh_isLost gcX8 rfl hb13 ⟨rfl, rfl, Nat.le_of_ble_eq_true rfl, Nat.le_of_ble_eq_true rfl⟩ ⟨Nat.zero_le _, Nat.zero_le _⟩ rfl rfl (Nat.le_of_ble_eq_true rfl) d_Lm_copy_41 [.int r14] rfl ?_
        refine g_if_eq (pc := 44) C 53 d_Lm_copy_44 rfl (fun e16 => ?_) (fun e16 => ?_)
        · have h := o_pos e16 h
          refine g_aload_n (pc := 53) C d_Lm_copy_53 rfl 0 rfl ?_
          obtain ⟨b17, hnb17, hb17, h⟩ := o_rq h
          refine g_get (pc := 54) (k := 6) (v := va_rf ((N a0 6).map ad)) C gcX10 inX10 (by decide) fl_Lm_54 ha0 rfl d_Lm_copy_54 ?_
          refine g_top (g_rf hnb17) ?_
          refine g_iload_n (pc := 57) C d_Lm_copy_57 rfl 1 rfl ?_
          refine g_iload_n (pc := 58) C d_Lm_copy_58 rfl 2 rfl ?_
          refine g_iload (pc := 59) C d_Lm_copy_59 5 rfl ?_
          obtain ⟨r18, hc19, h⟩ := o_bn1 h
          refine g_V (pc := 61) (rest := []) C (k_Sh_hasRun (xl X) hb17 hc19) sm_Sh_hasRun ml_Lm_114 im_Sh_hasRun se_Sh_hasRun gcX8 rfl hb17 ⟨rfl, rfl, Nat.le_of_ble_eq_true rfl, Nat.le_of_ble_eq_true rfl⟩ ⟨Nat.zero_le _, Nat.zero_le _⟩ rfl rfl (Nat.le_of_ble_eq_true rfl) d_Lm_copy_61 [.int r18] rfl ?_
          refine g_if_eq (pc := 64) C 82 d_Lm_copy_64 rfl (fun e20 => ?_) (fun e20 => ?_)
          · have h := o_pos e20 h
            refine g_lv [0] rfl ?_
            exact w_Lm_copy_82 C ha0 h
          · have h := o_neg e20 h
            refine g_aload_n (pc := 67) C d_Lm_copy_67 rfl 0 rfl ?_
            obtain ⟨b21, hnb21, hb21, h⟩ := o_rq h
            refine g_get (pc := 68) (k := 6) (v := va_rf ((N a0 6).map ad)) C gcX10 inX10 (by decide) fl_Lm_54 ha0 rfl d_Lm_copy_68 ?_
            refine g_top (g_rf hnb21) ?_
            refine g_iload_n (pc := 71) C d_Lm_copy_71 rfl 3 rfl ?_
            refine g_iload (pc := 72) C d_Lm_copy_72 4 rfl ?_
            refine g_iload (pc := 74) C d_Lm_copy_74 5 rfl ?_
            obtain ⟨r22, hc23, h⟩ := o_bn1 h
            refine g_V (pc := 76) (rest := []) C (k_Sh_hasRun (xl X) hb21 hc23) sm_Sh_hasRun ml_Lm_114 im_Sh_hasRun se_Sh_hasRun gcX8 rfl hb21 ⟨rfl, rfl, Nat.le_of_ble_eq_true rfl, Nat.le_of_ble_eq_true rfl⟩ ⟨Nat.zero_le _, Nat.zero_le _⟩ rfl rfl (Nat.le_of_ble_eq_true rfl) d_Lm_copy_76 [.int r22] rfl ?_
            refine g_if_ne (pc := 79) C 88 d_Lm_copy_79 rfl (fun e24 => ?_) (fun e24 => ?_)
            · have h := o_neg e24 h
              refine g_aload_n (pc := 88) C d_Lm_copy_88 rfl 0 rfl ?_
              obtain ⟨b25, hnb25, hb25, h⟩ := o_rq h
              refine g_get (pc := 89) (k := 6) (v := va_rf ((N a0 6).map ad)) C gcX10 inX10 (by decide) fl_Lm_54 ha0 rfl d_Lm_copy_89 ?_
              refine g_top (g_rf hnb25) ?_
              refine g_iload_n (pc := 92) C d_Lm_copy_92 rfl 1 rfl ?_
              refine g_iload_n (pc := 93) C d_Lm_copy_93 rfl 2 rfl ?_
              refine g_iload_n (pc := 94) C d_Lm_copy_94 rfl 3 rfl ?_
              refine g_iload (pc := 95) C d_Lm_copy_95 4 rfl ?_
              refine g_iload (pc := 97) C d_Lm_copy_97 5 rfl ?_
              obtain ⟨J26, hc27, h⟩ := o_bn1 h
              refine g_V (pc := 99) (rest := []) C (k_Sh_move (xl X) hb25 hc27) sm_Sh_move ml_Lm_241 im_Sh_move se_Sh_move gcX8 rfl hb25 ⟨rfl, rfl, Nat.le_of_ble_eq_true rfl, Nat.le_of_ble_eq_true rfl⟩ ⟨Nat.zero_le _, Nat.zero_le _⟩ rfl rfl (Nat.le_of_ble_eq_true rfl) d_Lm_copy_99 [] rfl ?_
              refine g_iconst (pc := 102) C (1 : Int32) d_Lm_copy_102 (by decide) ?_
              obtain rfl := o_ret h
              exact g_iret (pc := 103) C d_Lm_copy_103
            · have h := o_pos e24 h
              refine g_lv [0] rfl ?_
              exact w_Lm_copy_82 C ha0 h
        · have h := o_neg e16 h
          refine g_lv [0] rfl ?_
          exact w_Lm_copy_47 C ha0 h
    · have h := o_pos e8 h
      refine g_bipush (pc := 22) C (-2 : Int32) d_Lm_copy_22 (by decide) ?_
      obtain rfl := o_ret h
      exact g_iret (pc := 24) C d_Lm_copy_24
set_option maxRecDepth 20000 in
theorem k_Lm_copy (l : Launch) {I : HI} {J : HJ} {N : HN} {a0 : Nat} {p1 : Int32} {p2 : Int32} {p3 : Int32} {p4 : Int32} {p5 : Int32} {r : HI × HJ × Int32} (ha0 : gk Tc nC a0 (0, 10)) (h : Lm_copy N a0 p1 p2 p3 p4 p5 I J = some r) : gM l y_Lm_copy c_Lm_copy 6 (some .int) rm_Lm_copy Tc nC I J N (fun ad => [.ref (ad a0), .int p1, .int p2, .int p3, .int p4, .int p5]) (r.1, r.2.1, N, fun _ => some (.int r.2.2)) :=
  g_meth (lv := fun ad => [(0, .ref (ad a0)), (1, .int p1), (2, .int p2), (3, .int p3), (4, .int p4), (5, .int p5)]) (by decide) (fun _ => Nat.le_of_ble_eq_true rfl) (fun _ => rfl) (fun X ad C => g_lv [0, 1, 2, 3, 4, 5] rfl (w_Lm_copy_0 C ha0 h))
theorem d_Lm_write_0 : decode c_Lm_write 0 = .ok (.aload_n 0, 1) := by decide +kernel
theorem d_Lm_write_1 : decode c_Lm_write 1 = .ok (.iload_n 1, 1) := by decide +kernel
theorem d_Lm_write_2 : decode c_Lm_write 2 = .ok (.invokevirtual 110, 3) := by decide +kernel
theorem d_Lm_write_5 : decode c_Lm_write 5 = .ok (.istore_n 2, 1) := by decide +kernel
theorem d_Lm_write_6 : decode c_Lm_write 6 = .ok (.iload_n 2, 1) := by decide +kernel
theorem d_Lm_write_7 : decode c_Lm_write 7 = .ok (.ifCond .eq 5, 3) := by decide +kernel
theorem d_Lm_write_10 : decode c_Lm_write 10 = .ok (.iload_n 2, 1) := by decide +kernel
theorem d_Lm_write_11 : decode c_Lm_write 11 = .ok (.ireturn, 1) := by decide +kernel
theorem d_Lm_write_12 : decode c_Lm_write 12 = .ok (.aload_n 0, 1) := by decide +kernel
theorem d_Lm_write_13 : decode c_Lm_write 13 = .ok (.getfield 54, 3) := by decide +kernel
theorem d_Lm_write_16 : decode c_Lm_write 16 = .ok (.iload_n 1, 1) := by decide +kernel
theorem d_Lm_write_17 : decode c_Lm_write 17 = .ok (.invokevirtual 226, 3) := by decide +kernel
theorem d_Lm_write_20 : decode c_Lm_write 20 = .ok (.aload_n 0, 1) := by decide +kernel
theorem d_Lm_write_21 : decode c_Lm_write 21 = .ok (.getfield 19, 3) := by decide +kernel
theorem d_Lm_write_24 : decode c_Lm_write 24 = .ok (.getfield 161, 3) := by decide +kernel
theorem d_Lm_write_27 : decode c_Lm_write 27 = .ok (.iconst 5, 1) := by decide +kernel
theorem d_Lm_write_28 : decode c_Lm_write 28 = .ok (.imul, 1) := by decide +kernel
theorem d_Lm_write_29 : decode c_Lm_write 29 = .ok (.invokestatic 245, 3) := by decide +kernel
theorem d_Lm_write_32 : decode c_Lm_write 32 = .ok (.istore_n 3, 1) := by decide +kernel
theorem d_Lm_write_33 : decode c_Lm_write 33 = .ok (.iconst 0, 1) := by decide +kernel
theorem d_Lm_write_34 : decode c_Lm_write 34 = .ok (.istore 4, 2) := by decide +kernel
theorem d_Lm_write_36 : decode c_Lm_write 36 = .ok (.iload 4, 2) := by decide +kernel
theorem d_Lm_write_38 : decode c_Lm_write 38 = .ok (.iload_n 3, 1) := by decide +kernel
theorem d_Lm_write_39 : decode c_Lm_write 39 = .ok (.if_icmp .ge 35, 3) := by decide +kernel
theorem d_Lm_write_42 : decode c_Lm_write 42 = .ok (.aload_n 0, 1) := by decide +kernel
theorem d_Lm_write_43 : decode c_Lm_write 43 = .ok (.getfield 54, 3) := by decide +kernel
theorem d_Lm_write_46 : decode c_Lm_write 46 = .ok (.iload_n 1, 1) := by decide +kernel
theorem d_Lm_write_47 : decode c_Lm_write 47 = .ok (.iload 4, 2) := by decide +kernel
theorem d_Lm_write_49 : decode c_Lm_write 49 = .ok (.aload_n 0, 1) := by decide +kernel
theorem d_Lm_write_50 : decode c_Lm_write 50 = .ok (.getfield 19, 3) := by decide +kernel
theorem d_Lm_write_53 : decode c_Lm_write 53 = .ok (.iload 4, 2) := by decide +kernel
theorem d_Lm_write_55 : decode c_Lm_write 55 = .ok (.iconst 5, 1) := by decide +kernel
theorem d_Lm_write_56 : decode c_Lm_write 56 = .ok (.idiv, 1) := by decide +kernel
theorem d_Lm_write_57 : decode c_Lm_write 57 = .ok (.iload 4, 2) := by decide +kernel
theorem d_Lm_write_59 : decode c_Lm_write 59 = .ok (.iconst 5, 1) := by decide +kernel
theorem d_Lm_write_60 : decode c_Lm_write 60 = .ok (.irem, 1) := by decide +kernel
theorem d_Lm_write_61 : decode c_Lm_write 61 = .ok (.invokevirtual 185, 3) := by decide +kernel
theorem d_Lm_write_64 : decode c_Lm_write 64 = .ok (.i2l, 1) := by decide +kernel
theorem d_Lm_write_65 : decode c_Lm_write 65 = .ok (.invokevirtual 235, 3) := by decide +kernel
theorem d_Lm_write_68 : decode c_Lm_write 68 = .ok (.iinc 4 1, 3) := by decide +kernel
theorem d_Lm_write_71 : decode c_Lm_write 71 = .ok (.goto (-35), 3) := by decide +kernel
theorem d_Lm_write_74 : decode c_Lm_write 74 = .ok (.iload_n 3, 1) := by decide +kernel
theorem d_Lm_write_75 : decode c_Lm_write 75 = .ok (.ireturn, 1) := by decide +kernel
set_option maxRecDepth 20000 in
theorem w_Lm_write_36b {X : HX} {ad : Nat → Nat} {I : HI} {J : HJ} {N : HN} {r : HI × HJ × Int32} {k36 : HI → HJ → Int32 → Int32 → Option (HI × HJ × Int32)} {a0 : Nat} {p1 : Int32} {x3 : Int32} {x4 : Int32} (C : Cx X c_Lm_write RX10 5 (some .int) rm_Lm_write) (ha0 : gk Tc nC a0 (0, 10))
    (hk36 : ∀ (I : HI) (J : HJ) (x3 : Int32) (x4 : Int32), k36 I J x3 x4 = some r → G Tc X ad nC 0 0 I J N (gE X Tc ad nC (r.1, r.2.1, N, fun _ => some (.int r.2.2))) 36 5 [(0, .ref (ad a0)), (1, .int p1), (3, .int x3), (4, .int x4)] [])
    (h : Lm_write_36b N a0 p1 k36 I J x3 x4 = some r) : G Tc X ad nC 0 0 I J N (gE X Tc ad nC (r.1, r.2.1, N, fun _ => some (.int r.2.2))) 36 5 [(0, .ref (ad a0)), (1, .int p1), (3, .int x3), (4, .int x4)] [] := by
  refine g_iload (pc := 36) C d_Lm_write_36 3 rfl ?_
  refine g_iload_n (pc := 38) C d_Lm_write_38 rfl 2 rfl ?_
  refine g_icmp_ge (pc := 39) C 74 d_Lm_write_39 rfl (fun e1 => ?_) (fun e1 => ?_)
  · have h := o_pos e1 h
    refine g_iload_n (pc := 74) C d_Lm_write_74 rfl 2 rfl ?_
    obtain rfl := o_ret h
    exact g_iret (pc := 75) C d_Lm_write_75
  · have h := o_neg e1 h
    refine g_aload_n (pc := 42) C d_Lm_write_42 rfl 0 rfl ?_
    obtain ⟨b2, hnb2, hb2, h⟩ := o_rq h
    refine g_get (pc := 43) (k := 6) (v := va_rf ((N a0 6).map ad)) C gcX10 inX10 (by decide) fl_Lm_54 ha0 rfl d_Lm_write_43 ?_
    refine g_top (g_rf hnb2) ?_
    refine g_iload_n (pc := 46) C d_Lm_write_46 rfl 1 rfl ?_
    refine g_iload (pc := 47) C d_Lm_write_47 3 rfl ?_
    refine g_aload_n (pc := 49) C d_Lm_write_49 rfl 0 rfl ?_
    obtain ⟨b3, hnb3, hb3, h⟩ := o_rq h
    refine g_get (pc := 50) (k := 1) (v := va_rf ((N a0 1).map ad)) C gcX10 inX10 (by decide) fl_Lm_19 ha0 rfl d_Lm_write_50 ?_
    refine g_top (g_rf hnb3) ?_
    refine g_iload (pc := 53) C d_Lm_write_53 3 rfl ?_
    refine g_iconst (pc := 55) C (5 : Int32) d_Lm_write_55 (by decide) ?_
    refine g_idiv (pc := 56) C d_Lm_write_56 (by decide) ?_
    refine g_iload (pc := 57) C d_Lm_write_57 3 rfl ?_
    refine g_iconst (pc := 59) C (5 : Int32) d_Lm_write_59 (by decide) ?_
    refine g_irem (pc := 60) C d_Lm_write_60 (by decide) ?_
    obtain ⟨r4, hc5, h⟩ := o_bn1 h
    refine g_V (pc := 61) (rest := [.int x4, .int p1, .ref (ad b2)]) C (k_La_item (xl X) hb3 hc5) sm_La_item ml_Lm_185 im_La_item se_La_item gcX3 rfl hb3 ⟨rfl, rfl, Nat.le_of_ble_eq_true rfl, Nat.le_of_ble_eq_true rfl⟩ ⟨Nat.zero_le _, Nat.zero_le _⟩ rfl rfl (Nat.le_of_ble_eq_true rfl) d_Lm_write_61 [.int r4, .int x4, .int p1, .ref (ad b2)] rfl ?_
    refine g_i2l (pc := 64) C d_Lm_write_64 ?_
    obtain ⟨J6, hc7, h⟩ := o_bn1 h
    refine g_V (pc := 65) (rest := []) C (k_Sh_put (xl X) hb2 hc7) sm_Sh_put ml_Lm_235 im_Sh_put se_Sh_put gcX8 rfl hb2 ⟨rfl, rfl, Nat.le_of_ble_eq_true rfl, Nat.le_of_ble_eq_true rfl⟩ ⟨Nat.zero_le _, Nat.zero_le _⟩ rfl rfl (Nat.le_of_ble_eq_true rfl) d_Lm_write_65 [] rfl ?_
    refine g_iinc (pc := 68) (q := 3) (lv' := [(4, .int (x4 + 1)), (0, .ref (ad a0)), (1, .int p1), (3, .int x3)]) C d_Lm_write_68 rfl rfl (by decide) rfl ?_
    refine g_goto (pc := 71) C 36 d_Lm_write_71 rfl ?_
    refine g_lv [1, 2, 3, 0] rfl ?_
    exact hk36 _ _ _ _ h
set_option maxRecDepth 20000 in
theorem w_Lm_write_36 {X : HX} {ad : Nat → Nat} {N : HN} {r : HI × HJ × Int32} {a0 : Nat} {p1 : Int32} (C : Cx X c_Lm_write RX10 5 (some .int) rm_Lm_write) (ha0 : gk Tc nC a0 (0, 10)) : ∀ (n : Nat) (I : HI) (J : HJ) (x3 : Int32) (x4 : Int32), Lm_write_36 N a0 p1 n I J x3 x4 = some r → G Tc X ad nC 0 0 I J N (gE X Tc ad nC (r.1, r.2.1, N, fun _ => some (.int r.2.2))) 36 5 [(0, .ref (ad a0)), (1, .int p1), (3, .int x3), (4, .int x4)] [] := by
  intro n
  induction n with
  | zero => intro I J x3 x4 h; cases h
  | succ n ih => intro I J x3 x4 h; exact w_Lm_write_36b C ha0 ih h
set_option maxRecDepth 20000 in
theorem w_Lm_write_0 {X : HX} {ad : Nat → Nat} {I : HI} {J : HJ} {N : HN} {r : HI × HJ × Int32} {a0 : Nat} {p1 : Int32} (C : Cx X c_Lm_write RX10 5 (some .int) rm_Lm_write) (ha0 : gk Tc nC a0 (0, 10))
    (h : Lm_write_0 N a0 p1 I J = some r) : G Tc X ad nC 0 0 I J N (gE X Tc ad nC (r.1, r.2.1, N, fun _ => some (.int r.2.2))) 0 5 [(0, .ref (ad a0)), (1, .int p1)] [] := by
  refine g_aload_n (pc := 0) C d_Lm_write_0 rfl 0 rfl ?_
  refine g_iload_n (pc := 1) C d_Lm_write_1 rfl 1 rfl ?_
  obtain ⟨I1, r2, hc3, h⟩ := o_bn2 h
  refine g_V (pc := 2) (rest := []) C (k_Lm_sheetRefusal (xl X) ha0 hc3) sm_Lm_sheetRefusal ml_Lm_110 im_Lm_sheetRefusal se_Lm_sheetRefusal gcX10 rfl ha0 ⟨rfl, rfl, Nat.le_of_ble_eq_true rfl, Nat.le_of_ble_eq_true rfl⟩ ⟨Nat.zero_le _, Nat.zero_le _⟩ rfl rfl (Nat.le_of_ble_eq_true rfl) d_Lm_write_2 [.int r2] rfl ?_
  refine g_istore_n (pc := 5) (lv' := [(2, .int r2), (0, .ref (ad a0)), (1, .int p1)]) C d_Lm_write_5 rfl (by decide) rfl ?_
  refine g_iload_n (pc := 6) C d_Lm_write_6 rfl 0 rfl ?_
  refine g_if_eq (pc := 7) C 12 d_Lm_write_7 rfl (fun e4 => ?_) (fun e4 => ?_)
  · have h := o_pos e4 h
    refine g_aload_n (pc := 12) C d_Lm_write_12 rfl 1 rfl ?_
    obtain ⟨b5, hnb5, hb5, h⟩ := o_rq h
    refine g_get (pc := 13) (k := 6) (v := va_rf ((N a0 6).map ad)) C gcX10 inX10 (by decide) fl_Lm_54 ha0 rfl d_Lm_write_13 ?_
    refine g_top (g_rf hnb5) ?_
    refine g_iload_n (pc := 16) C d_Lm_write_16 rfl 2 rfl ?_
    obtain ⟨r6, hc7, h⟩ := o_bn1 h
    refine g_V (pc := 17) (rest := []) C (k_Sh_size (xl X) hb5 hc7) sm_Sh_size ml_Lm_226 im_Sh_size se_Sh_size gcX8 rfl hb5 ⟨rfl, rfl, Nat.le_of_ble_eq_true rfl, Nat.le_of_ble_eq_true rfl⟩ ⟨Nat.zero_le _, Nat.zero_le _⟩ rfl rfl (Nat.le_of_ble_eq_true rfl) d_Lm_write_17 [.int r6] rfl ?_
    refine g_aload_n (pc := 20) C d_Lm_write_20 rfl 1 rfl ?_
    obtain ⟨b8, hnb8, hb8, h⟩ := o_rq h
    refine g_get (pc := 21) (k := 1) (v := va_rf ((N a0 1).map ad)) C gcX10 inX10 (by decide) fl_Lm_19 ha0 rfl d_Lm_write_21 ?_
    refine g_top (g_rf hnb8) ?_
    refine g_getN (pc := 24) (k := 1) (v := .int (I1 b8 1)) C gcX3 inX3 (by decide) fl_Lm_161 hb8 rfl d_Lm_write_24 ?_
    refine g_iconst (pc := 27) C (5 : Int32) d_Lm_write_27 (by decide) ?_
    refine g_imul (pc := 28) C d_Lm_write_28 ?_
    refine g_min (pc := 29) C ml_Lm_245 jd_min_s jd_Math_i jd_min_c ⟨Nat.le_of_ble_eq_true rfl, Nat.le_of_ble_eq_true rfl, Nat.zero_le _, Nat.zero_le _⟩ d_Lm_write_29 ?_
    obtain ⟨v9, ev9, h⟩ := o_bd h
    refine g_topi ev9 ?_
    refine g_istore_n (pc := 32) (lv' := [(3, .int v9), (2, .int r2), (0, .ref (ad a0)), (1, .int p1)]) C d_Lm_write_32 rfl (by decide) rfl ?_
    refine g_iconst (pc := 33) C (0 : Int32) d_Lm_write_33 (by decide) ?_
    refine g_istore (pc := 34) (lv' := [(4, .int (0 : Int32)), (3, .int v9), (2, .int r2), (0, .ref (ad a0)), (1, .int p1)]) C d_Lm_write_34 (by decide) rfl ?_
    refine g_lv [3, 4, 1, 0] rfl ?_
    exact w_Lm_write_36 C ha0 _ _ _ _ _ h
  · have h := o_neg e4 h
    refine g_iload_n (pc := 10) C d_Lm_write_10 rfl 0 rfl ?_
    obtain rfl := o_ret h
    exact g_iret (pc := 11) C d_Lm_write_11
set_option maxRecDepth 20000 in
theorem k_Lm_write (l : Launch) {I : HI} {J : HJ} {N : HN} {a0 : Nat} {p1 : Int32} {r : HI × HJ × Int32} (ha0 : gk Tc nC a0 (0, 10)) (h : Lm_write N a0 p1 I J = some r) : gM l y_Lm_write c_Lm_write 5 (some .int) rm_Lm_write Tc nC I J N (fun ad => [.ref (ad a0), .int p1]) (r.1, r.2.1, N, fun _ => some (.int r.2.2)) :=
  g_meth (lv := fun ad => [(0, .ref (ad a0)), (1, .int p1)]) (by decide) (fun _ => Nat.le_of_ble_eq_true rfl) (fun _ => rfl) (fun X ad C => g_lv [0, 1] rfl (w_Lm_write_0 C ha0 h))
theorem d_Lm_count_0 : decode c_Lm_count 0 = .ok (.iload_n 1, 1) := by decide +kernel
theorem d_Lm_count_1 : decode c_Lm_count 1 = .ok (.tableswitch 125 0 8 #[51, 59, 67, 83, 91, 99, 107, 112, 120], 51) := by decide +kernel
theorem d_Lm_count_52 : decode c_Lm_count 52 = .ok (.aload_n 0, 1) := by decide +kernel
theorem d_Lm_count_53 : decode c_Lm_count 53 = .ok (.getfield 19, 3) := by decide +kernel
theorem d_Lm_count_56 : decode c_Lm_count 56 = .ok (.getfield 161, 3) := by decide +kernel
theorem d_Lm_count_59 : decode c_Lm_count 59 = .ok (.ireturn, 1) := by decide +kernel
theorem d_Lm_count_60 : decode c_Lm_count 60 = .ok (.aload_n 0, 1) := by decide +kernel
theorem d_Lm_count_61 : decode c_Lm_count 61 = .ok (.getfield 19, 3) := by decide +kernel
theorem d_Lm_count_64 : decode c_Lm_count 64 = .ok (.invokevirtual 250, 3) := by decide +kernel
theorem d_Lm_count_67 : decode c_Lm_count 67 = .ok (.ireturn, 1) := by decide +kernel
theorem d_Lm_count_68 : decode c_Lm_count 68 = .ok (.aload_n 0, 1) := by decide +kernel
theorem d_Lm_count_69 : decode c_Lm_count 69 = .ok (.getfield 12, 3) := by decide +kernel
theorem d_Lm_count_72 : decode c_Lm_count 72 = .ok (.invokevirtual 98, 3) := by decide +kernel
theorem d_Lm_count_75 : decode c_Lm_count 75 = .ok (.ifCond .eq 7, 3) := by decide +kernel
theorem d_Lm_count_78 : decode c_Lm_count 78 = .ok (.iconst 1, 1) := by decide +kernel
theorem d_Lm_count_79 : decode c_Lm_count 79 = .ok (.goto 4, 3) := by decide +kernel
theorem d_Lm_count_82 : decode c_Lm_count 82 = .ok (.iconst 0, 1) := by decide +kernel
theorem d_Lm_count_83 : decode c_Lm_count 83 = .ok (.ireturn, 1) := by decide +kernel
theorem d_Lm_count_84 : decode c_Lm_count 84 = .ok (.aload_n 0, 1) := by decide +kernel
theorem d_Lm_count_85 : decode c_Lm_count 85 = .ok (.getfield 40, 3) := by decide +kernel
theorem d_Lm_count_88 : decode c_Lm_count 88 = .ok (.getfield 201, 3) := by decide +kernel
theorem d_Lm_count_91 : decode c_Lm_count 91 = .ok (.ireturn, 1) := by decide +kernel
theorem d_Lm_count_92 : decode c_Lm_count 92 = .ok (.aload_n 0, 1) := by decide +kernel
theorem d_Lm_count_93 : decode c_Lm_count 93 = .ok (.getfield 47, 3) := by decide +kernel
theorem d_Lm_count_96 : decode c_Lm_count 96 = .ok (.getfield 253, 3) := by decide +kernel
theorem d_Lm_count_99 : decode c_Lm_count 99 = .ok (.ireturn, 1) := by decide +kernel
theorem d_Lm_count_100 : decode c_Lm_count 100 = .ok (.aload_n 0, 1) := by decide +kernel
theorem d_Lm_count_101 : decode c_Lm_count 101 = .ok (.getfield 47, 3) := by decide +kernel
theorem d_Lm_count_104 : decode c_Lm_count 104 = .ok (.invokevirtual 256, 3) := by decide +kernel
theorem d_Lm_count_107 : decode c_Lm_count 107 = .ok (.ireturn, 1) := by decide +kernel
theorem d_Lm_count_108 : decode c_Lm_count 108 = .ok (.aload_n 0, 1) := by decide +kernel
theorem d_Lm_count_109 : decode c_Lm_count 109 = .ok (.invokevirtual 259, 3) := by decide +kernel
theorem d_Lm_count_112 : decode c_Lm_count 112 = .ok (.ireturn, 1) := by decide +kernel
theorem d_Lm_count_113 : decode c_Lm_count 113 = .ok (.aload_n 0, 1) := by decide +kernel
theorem d_Lm_count_114 : decode c_Lm_count 114 = .ok (.getfield 54, 3) := by decide +kernel
theorem d_Lm_count_117 : decode c_Lm_count 117 = .ok (.invokevirtual 262, 3) := by decide +kernel
theorem d_Lm_count_120 : decode c_Lm_count 120 = .ok (.ireturn, 1) := by decide +kernel
theorem d_Lm_count_121 : decode c_Lm_count 121 = .ok (.aload_n 0, 1) := by decide +kernel
theorem d_Lm_count_122 : decode c_Lm_count 122 = .ok (.getfield 65, 3) := by decide +kernel
theorem d_Lm_count_125 : decode c_Lm_count 125 = .ok (.ireturn, 1) := by decide +kernel
theorem d_Lm_count_126 : decode c_Lm_count 126 = .ok (.bipush (-2), 2) := by decide +kernel
theorem d_Lm_count_128 : decode c_Lm_count 128 = .ok (.ireturn, 1) := by decide +kernel
set_option maxRecDepth 20000 in
theorem w_Lm_count_0 {X : HX} {ad : Nat → Nat} {I : HI} {J : HJ} {N : HN} {r : Int32} {a0 : Nat} {p1 : Int32} (C : Cx X c_Lm_count RX10 2 (some .int) rm_Lm_count) (ha0 : gk Tc nC a0 (0, 10))
    (h : Lm_count_0 I J N a0 p1 = some r) : G Tc X ad nC 0 0 I J N (gE X Tc ad nC (I, J, N, fun _ => some (.int r))) 0 2 [(0, .ref (ad a0)), (1, .int p1)] [] := by
  refine g_iload_n (pc := 0) C d_Lm_count_0 rfl 1 rfl ?_
  by_cases e1 : p1 = (0 : Int32)
  · have h := o_pos e1 h
    refine g_tableIn (pc := 1) C 52 d_Lm_count_1 (by rw [e1]; decide) (by rw [e1]; decide) (by rw [e1]; rfl) rfl ?_
    refine g_aload_n (pc := 52) C d_Lm_count_52 rfl 0 rfl ?_
    obtain ⟨b2, hnb2, hb2, h⟩ := o_rq h
    refine g_get (pc := 53) (k := 1) (v := va_rf ((N a0 1).map ad)) C gcX10 inX10 (by decide) fl_Lm_19 ha0 rfl d_Lm_count_53 ?_
    refine g_top (g_rf hnb2) ?_
    refine g_getN (pc := 56) (k := 1) (v := .int (I b2 1)) C gcX3 inX3 (by decide) fl_Lm_161 hb2 rfl d_Lm_count_56 ?_
    obtain rfl := o_ret h
    exact g_iret (pc := 59) C d_Lm_count_59
  have h := o_neg e1 h
  by_cases e3 : p1 = (1 : Int32)
  · have h := o_pos e3 h
    refine g_tableIn (pc := 1) C 60 d_Lm_count_1 (by rw [e3]; decide) (by rw [e3]; decide) (by rw [e3]; rfl) rfl ?_
    refine g_aload_n (pc := 60) C d_Lm_count_60 rfl 0 rfl ?_
    obtain ⟨b4, hnb4, hb4, h⟩ := o_rq h
    refine g_get (pc := 61) (k := 1) (v := va_rf ((N a0 1).map ad)) C gcX10 inX10 (by decide) fl_Lm_19 ha0 rfl d_Lm_count_61 ?_
    refine g_top (g_rf hnb4) ?_
    obtain ⟨r5, hc6, h⟩ := o_bn1 h
    refine g_V (pc := 64) (rest := []) C (k_La_valueCount (xl X) hb4 hc6) sm_La_valueCount ml_Lm_250 im_La_valueCount se_La_valueCount gcX3 rfl hb4 ⟨rfl, rfl, Nat.le_of_ble_eq_true rfl, Nat.le_of_ble_eq_true rfl⟩ ⟨Nat.zero_le _, Nat.zero_le _⟩ rfl rfl (Nat.le_of_ble_eq_true rfl) d_Lm_count_64 [.int r5] rfl ?_
    obtain rfl := o_ret h
    exact g_iret (pc := 67) C d_Lm_count_67
  have h := o_neg e3 h
  by_cases e7 : p1 = (2 : Int32)
  · have h := o_pos e7 h
    refine g_tableIn (pc := 1) C 68 d_Lm_count_1 (by rw [e7]; decide) (by rw [e7]; decide) (by rw [e7]; rfl) rfl ?_
    refine g_aload_n (pc := 68) C d_Lm_count_68 rfl 0 rfl ?_
    obtain ⟨b8, hnb8, hb8, h⟩ := o_rq h
    refine g_get (pc := 69) (k := 0) (v := va_rf ((N a0 0).map ad)) C gcX10 inX10 (by decide) fl_Lm_12 ha0 rfl d_Lm_count_69 ?_
    refine g_top (g_rf hnb8) ?_
    obtain ⟨r9, hc10, h⟩ := o_bn1 h
    refine g_V (pc := 72) (rest := []) C (k_Pa_isLawful (xl X) hb8 hc10) sm_Pa_isLawful ml_Lm_98 im_Pa_isLawful se_Pa_isLawful gcX5 rfl hb8 ⟨rfl, rfl, Nat.le_of_ble_eq_true rfl, Nat.le_of_ble_eq_true rfl⟩ ⟨Nat.zero_le _, Nat.zero_le _⟩ rfl rfl (Nat.le_of_ble_eq_true rfl) d_Lm_count_72 [.int r9] rfl ?_
    refine g_if_eq (pc := 75) C 82 d_Lm_count_75 rfl (fun e11 => ?_) (fun e11 => ?_)
    · have h := o_pos e11 h
      refine g_iconst (pc := 82) C (0 : Int32) d_Lm_count_82 (by decide) ?_
      obtain rfl := o_ret h
      exact g_iret (pc := 83) C d_Lm_count_83
    · have h := o_neg e11 h
      refine g_iconst (pc := 78) C (1 : Int32) d_Lm_count_78 (by decide) ?_
      refine g_goto (pc := 79) C 83 d_Lm_count_79 rfl ?_
      obtain rfl := o_ret h
      exact g_iret (pc := 83) C d_Lm_count_83
  have h := o_neg e7 h
  by_cases e12 : p1 = (3 : Int32)
  · have h := o_pos e12 h
    refine g_tableIn (pc := 1) C 84 d_Lm_count_1 (by rw [e12]; decide) (by rw [e12]; decide) (by rw [e12]; rfl) rfl ?_
    refine g_aload_n (pc := 84) C d_Lm_count_84 rfl 0 rfl ?_
    obtain ⟨b13, hnb13, hb13, h⟩ := o_rq h
    refine g_get (pc := 85) (k := 4) (v := va_rf ((N a0 4).map ad)) C gcX10 inX10 (by decide) fl_Lm_40 ha0 rfl d_Lm_count_85 ?_
    refine g_top (g_rf hnb13) ?_
    refine g_getN (pc := 88) (k := 1) (v := .int (I b13 1)) C gcX0 inX0 (by decide) fl_Lm_201 hb13 rfl d_Lm_count_88 ?_
    obtain rfl := o_ret h
    exact g_iret (pc := 91) C d_Lm_count_91
  have h := o_neg e12 h
  by_cases e14 : p1 = (4 : Int32)
  · have h := o_pos e14 h
    refine g_tableIn (pc := 1) C 92 d_Lm_count_1 (by rw [e14]; decide) (by rw [e14]; decide) (by rw [e14]; rfl) rfl ?_
    refine g_aload_n (pc := 92) C d_Lm_count_92 rfl 0 rfl ?_
    obtain ⟨b15, hnb15, hb15, h⟩ := o_rq h
    refine g_get (pc := 93) (k := 5) (v := va_rf ((N a0 5).map ad)) C gcX10 inX10 (by decide) fl_Lm_47 ha0 rfl d_Lm_count_93 ?_
    refine g_top (g_rf hnb15) ?_
    refine g_getN (pc := 96) (k := 2) (v := .int (I b15 2)) C gcX4 inX4 (by decide) fl_Lm_253 hb15 rfl d_Lm_count_96 ?_
    obtain rfl := o_ret h
    exact g_iret (pc := 99) C d_Lm_count_99
  have h := o_neg e14 h
  by_cases e16 : p1 = (5 : Int32)
  · have h := o_pos e16 h
    refine g_tableIn (pc := 1) C 100 d_Lm_count_1 (by rw [e16]; decide) (by rw [e16]; decide) (by rw [e16]; rfl) rfl ?_
    refine g_aload_n (pc := 100) C d_Lm_count_100 rfl 0 rfl ?_
    obtain ⟨b17, hnb17, hb17, h⟩ := o_rq h
    refine g_get (pc := 101) (k := 5) (v := va_rf ((N a0 5).map ad)) C gcX10 inX10 (by decide) fl_Lm_47 ha0 rfl d_Lm_count_101 ?_
    refine g_top (g_rf hnb17) ?_
    obtain ⟨r18, hc19, h⟩ := o_bn1 h
    refine g_V (pc := 104) (rest := []) C (k_Me_timesOfAll (xl X) hb17 hc19) sm_Me_timesOfAll ml_Lm_256 im_Me_timesOfAll se_Me_timesOfAll gcX4 rfl hb17 ⟨rfl, rfl, Nat.le_of_ble_eq_true rfl, Nat.le_of_ble_eq_true rfl⟩ ⟨Nat.zero_le _, Nat.zero_le _⟩ rfl rfl (Nat.le_of_ble_eq_true rfl) d_Lm_count_104 [.int r18] rfl ?_
    obtain rfl := o_ret h
    exact g_iret (pc := 107) C d_Lm_count_107
  have h := o_neg e16 h
  by_cases e20 : p1 = (6 : Int32)
  · have h := o_pos e20 h
    refine g_tableIn (pc := 1) C 108 d_Lm_count_1 (by rw [e20]; decide) (by rw [e20]; decide) (by rw [e20]; rfl) rfl ?_
    refine g_aload_n (pc := 108) C d_Lm_count_108 rfl 0 rfl ?_
    obtain ⟨r21, hc22, h⟩ := o_bn1 h
    refine g_V (pc := 109) (rest := []) C (k_Lm_alike (xl X) ha0 hc22) sm_Lm_alike ml_Lm_259 im_Lm_alike se_Lm_alike gcX10 rfl ha0 ⟨rfl, rfl, Nat.le_of_ble_eq_true rfl, Nat.le_of_ble_eq_true rfl⟩ ⟨Nat.zero_le _, Nat.zero_le _⟩ rfl rfl (Nat.le_of_ble_eq_true rfl) d_Lm_count_109 [.int r21] rfl ?_
    obtain rfl := o_ret h
    exact g_iret (pc := 112) C d_Lm_count_112
  have h := o_neg e20 h
  by_cases e23 : p1 = (7 : Int32)
  · have h := o_pos e23 h
    refine g_tableIn (pc := 1) C 113 d_Lm_count_1 (by rw [e23]; decide) (by rw [e23]; decide) (by rw [e23]; rfl) rfl ?_
    refine g_aload_n (pc := 113) C d_Lm_count_113 rfl 0 rfl ?_
    obtain ⟨b24, hnb24, hb24, h⟩ := o_rq h
    refine g_get (pc := 114) (k := 6) (v := va_rf ((N a0 6).map ad)) C gcX10 inX10 (by decide) fl_Lm_54 ha0 rfl d_Lm_count_114 ?_
    refine g_top (g_rf hnb24) ?_
    obtain ⟨r25, hc26, h⟩ := o_bn1 h
    refine g_V (pc := 117) (rest := []) C (k_Sh_notLost (xl X) hb24 hc26) sm_Sh_notLost ml_Lm_262 im_Sh_notLost se_Sh_notLost gcX8 rfl hb24 ⟨rfl, rfl, Nat.le_of_ble_eq_true rfl, Nat.le_of_ble_eq_true rfl⟩ ⟨Nat.zero_le _, Nat.zero_le _⟩ rfl rfl (Nat.le_of_ble_eq_true rfl) d_Lm_count_117 [.int r25] rfl ?_
    obtain rfl := o_ret h
    exact g_iret (pc := 120) C d_Lm_count_120
  have h := o_neg e23 h
  by_cases e27 : p1 = (8 : Int32)
  · have h := o_pos e27 h
    refine g_tableIn (pc := 1) C 121 d_Lm_count_1 (by rw [e27]; decide) (by rw [e27]; decide) (by rw [e27]; rfl) rfl ?_
    refine g_aload_n (pc := 121) C d_Lm_count_121 rfl 0 rfl ?_
    refine g_get (pc := 122) (k := 8) (v := .int (I a0 8)) C gcX10 inX10 (by decide) fl_Lm_65 ha0 rfl d_Lm_count_122 ?_
    obtain rfl := o_ret h
    exact g_iret (pc := 125) C d_Lm_count_125
  have h := o_neg e27 h
  refine g_tableOut (pc := 1) C 126 d_Lm_count_1 (sw_out _ 9 (by decide) (fun k hk => by
      rcases (show k = 0 ∨ k = 1 ∨ k = 2 ∨ k = 3 ∨ k = 4 ∨ k = 5 ∨ k = 6 ∨ k = 7 ∨ k = 8 by omega) with rfl | rfl | rfl | rfl | rfl | rfl | rfl | rfl | rfl
      · exact e1
      · exact e3
      · exact e7
      · exact e12
      · exact e14
      · exact e16
      · exact e20
      · exact e23
      · exact e27)) rfl ?_
  refine g_bipush (pc := 126) C (-2 : Int32) d_Lm_count_126 (by decide) ?_
  obtain rfl := o_ret h
  exact g_iret (pc := 128) C d_Lm_count_128
set_option maxRecDepth 20000 in
theorem k_Lm_count (l : Launch) {I : HI} {J : HJ} {N : HN} {a0 : Nat} {p1 : Int32} {r : Int32} (ha0 : gk Tc nC a0 (0, 10)) (h : Lm_count I J N a0 p1 = some r) : gM l y_Lm_count c_Lm_count 2 (some .int) rm_Lm_count Tc nC I J N (fun ad => [.ref (ad a0), .int p1]) (I, J, N, fun _ => some (.int r)) :=
  g_meth (lv := fun ad => [(0, .ref (ad a0)), (1, .int p1)]) (by decide) (fun _ => Nat.le_of_ble_eq_true rfl) (fun _ => rfl) (fun X ad C => g_lv [0, 1] rfl (w_Lm_count_0 C ha0 h))
