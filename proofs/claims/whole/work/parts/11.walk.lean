theorem d_La_add_0 : decode c_La_add 0 = .ok (.iload_n 2, 1) := by decide +kernel
theorem d_La_add_1 : decode c_La_add 1 = .ok (.ifCond .eq 7, 3) := by decide +kernel
theorem d_La_add_4 : decode c_La_add 4 = .ok (.iconst 1, 1) := by decide +kernel
theorem d_La_add_5 : decode c_La_add 5 = .ok (.goto 4, 3) := by decide +kernel
theorem d_La_add_8 : decode c_La_add 8 = .ok (.iconst 0, 1) := by decide +kernel
theorem d_La_add_9 : decode c_La_add 9 = .ok (.iload 4, 2) := by decide +kernel
theorem d_La_add_11 : decode c_La_add 11 = .ok (.ifCond .eq 7, 3) := by decide +kernel
theorem d_La_add_14 : decode c_La_add 14 = .ok (.iconst 1, 1) := by decide +kernel
theorem d_La_add_15 : decode c_La_add 15 = .ok (.goto 4, 3) := by decide +kernel
theorem d_La_add_18 : decode c_La_add 18 = .ok (.iconst 0, 1) := by decide +kernel
theorem d_La_add_19 : decode c_La_add 19 = .ok (.iadd, 1) := by decide +kernel
theorem d_La_add_20 : decode c_La_add 20 = .ok (.istore 6, 2) := by decide +kernel
theorem d_La_add_22 : decode c_La_add 22 = .ok (.aload_n 0, 1) := by decide +kernel
theorem d_La_add_23 : decode c_La_add 23 = .ok (.getfield 16, 3) := by decide +kernel
theorem d_La_add_26 : decode c_La_add 26 = .ok (.bipush 6, 2) := by decide +kernel
theorem d_La_add_28 : decode c_La_add 28 = .ok (.if_icmp .ge 15, 3) := by decide +kernel
theorem d_La_add_31 : decode c_La_add 31 = .ok (.aload_n 0, 1) := by decide +kernel
theorem d_La_add_32 : decode c_La_add 32 = .ok (.invokevirtual 20, 3) := by decide +kernel
theorem d_La_add_35 : decode c_La_add 35 = .ok (.iload 6, 2) := by decide +kernel
theorem d_La_add_37 : decode c_La_add 37 = .ok (.iadd, 1) := by decide +kernel
theorem d_La_add_38 : decode c_La_add 38 = .ok (.bipush 6, 2) := by decide +kernel
theorem d_La_add_40 : decode c_La_add 40 = .ok (.if_icmp .le 5, 3) := by decide +kernel
theorem d_La_add_43 : decode c_La_add 43 = .ok (.iconst 0, 1) := by decide +kernel
theorem d_La_add_44 : decode c_La_add 44 = .ok (.ireturn, 1) := by decide +kernel
theorem d_La_add_45 : decode c_La_add 45 = .ok (.aload_n 0, 1) := by decide +kernel
theorem d_La_add_46 : decode c_La_add 46 = .ok (.getfield 11, 3) := by decide +kernel
theorem d_La_add_49 : decode c_La_add 49 = .ok (.aload_n 0, 1) := by decide +kernel
theorem d_La_add_50 : decode c_La_add 50 = .ok (.getfield 16, 3) := by decide +kernel
theorem d_La_add_53 : decode c_La_add 53 = .ok (.aaload, 1) := by decide +kernel
theorem d_La_add_54 : decode c_La_add 54 = .ok (.astore 7, 2) := by decide +kernel
theorem d_La_add_56 : decode c_La_add 56 = .ok (.aload 7, 2) := by decide +kernel
theorem d_La_add_58 : decode c_La_add 58 = .ok (.iconst 0, 1) := by decide +kernel
theorem d_La_add_59 : decode c_La_add 59 = .ok (.iload_n 1, 1) := by decide +kernel
theorem d_La_add_60 : decode c_La_add 60 = .ok (.iastore, 1) := by decide +kernel
theorem d_La_add_61 : decode c_La_add 61 = .ok (.aload 7, 2) := by decide +kernel
theorem d_La_add_63 : decode c_La_add 63 = .ok (.iconst 1, 1) := by decide +kernel
theorem d_La_add_64 : decode c_La_add 64 = .ok (.iload_n 2, 1) := by decide +kernel
theorem d_La_add_65 : decode c_La_add 65 = .ok (.iastore, 1) := by decide +kernel
theorem d_La_add_66 : decode c_La_add 66 = .ok (.aload 7, 2) := by decide +kernel
theorem d_La_add_68 : decode c_La_add 68 = .ok (.iconst 2, 1) := by decide +kernel
theorem d_La_add_69 : decode c_La_add 69 = .ok (.iload_n 3, 1) := by decide +kernel
theorem d_La_add_70 : decode c_La_add 70 = .ok (.iastore, 1) := by decide +kernel
theorem d_La_add_71 : decode c_La_add 71 = .ok (.aload 7, 2) := by decide +kernel
theorem d_La_add_73 : decode c_La_add 73 = .ok (.iconst 3, 1) := by decide +kernel
theorem d_La_add_74 : decode c_La_add 74 = .ok (.iload 4, 2) := by decide +kernel
theorem d_La_add_76 : decode c_La_add 76 = .ok (.iastore, 1) := by decide +kernel
theorem d_La_add_77 : decode c_La_add 77 = .ok (.aload 7, 2) := by decide +kernel
theorem d_La_add_79 : decode c_La_add 79 = .ok (.iconst 4, 1) := by decide +kernel
theorem d_La_add_80 : decode c_La_add 80 = .ok (.iload 5, 2) := by decide +kernel
theorem d_La_add_82 : decode c_La_add 82 = .ok (.iastore, 1) := by decide +kernel
theorem d_La_add_83 : decode c_La_add 83 = .ok (.aload_n 0, 1) := by decide +kernel
theorem d_La_add_84 : decode c_La_add 84 = .ok (.dup, 1) := by decide +kernel
theorem d_La_add_85 : decode c_La_add 85 = .ok (.getfield 16, 3) := by decide +kernel
theorem d_La_add_88 : decode c_La_add 88 = .ok (.iconst 1, 1) := by decide +kernel
theorem d_La_add_89 : decode c_La_add 89 = .ok (.iadd, 1) := by decide +kernel
theorem d_La_add_90 : decode c_La_add 90 = .ok (.putfield 16, 3) := by decide +kernel
theorem d_La_add_93 : decode c_La_add 93 = .ok (.iconst 1, 1) := by decide +kernel
theorem d_La_add_94 : decode c_La_add 94 = .ok (.ireturn, 1) := by decide +kernel
set_option maxRecDepth 20000 in
theorem w_La_add_19 {X : HX} {ad : Nat → Nat} {I : HI} {J : HJ} {N : HN} {r : HI × Int32} {a0 : Nat} {p1 : Int32} {p2 : Int32} {p3 : Int32} {p4 : Int32} {p5 : Int32} {s0 : Int32} {s1 : Int32} (C : Cx X c_La_add RX3 8 (some .boolean) rm_La_add) (ha0 : gk Tc nC a0 (0, 3))
    (h : La_add_19 N a0 p1 p2 p3 p4 p5 I s0 s1 = some r) : G Tc X ad nC 0 0 I J N (gE X Tc ad nC (r.1, J, N, fun _ => some (.int r.2))) 19 8 [(0, .ref (ad a0)), (1, .int p1), (2, .int p2), (3, .int p3), (4, .int p4), (5, .int p5)] [.int s1, .int s0] := by
  refine g_iadd (pc := 19) C d_La_add_19 ?_
  obtain ⟨v1, ev1, h⟩ := o_bd h
  refine g_topi ev1 ?_
  refine g_istore (pc := 20) (lv' := [(6, .int v1), (0, .ref (ad a0)), (1, .int p1), (2, .int p2), (3, .int p3), (4, .int p4), (5, .int p5)]) C d_La_add_20 (by decide) rfl ?_
  refine g_aload_n (pc := 22) C d_La_add_22 rfl 1 rfl ?_
  refine g_get (pc := 23) (k := 1) (v := .int (I a0 1)) C gcX3 inX3 (by decide) fl_La_16 ha0 rfl d_La_add_23 ?_
  refine g_bipush (pc := 26) C (6 : Int32) d_La_add_26 (by decide) ?_
  refine g_icmp_ge (pc := 28) C 43 d_La_add_28 rfl (fun e2 => ?_) (fun e2 => ?_)
  · have h := o_pos e2 h
    refine g_iconst (pc := 43) C (0 : Int32) d_La_add_43 (by decide) ?_
    obtain rfl := o_ret h
    exact g_zret (pc := 44) C zn_0 d_La_add_44
  · have h := o_neg e2 h
    refine g_aload_n (pc := 31) C d_La_add_31 rfl 1 rfl ?_
    obtain ⟨r3, hc4, h⟩ := o_bn1 h
    refine g_V (pc := 32) (rest := []) C (k_La_valueCount (xl X) ha0 hc4) sm_La_valueCount ml_La_20 im_La_valueCount se_La_valueCount gcX3 rfl ha0 ⟨rfl, rfl, Nat.le_of_ble_eq_true rfl, Nat.le_of_ble_eq_true rfl⟩ ⟨Nat.zero_le _, Nat.zero_le _⟩ rfl rfl (Nat.le_of_ble_eq_true rfl) d_La_add_32 [.int r3] rfl ?_
    refine g_iload (pc := 35) C d_La_add_35 0 rfl ?_
    refine g_iadd (pc := 37) C d_La_add_37 ?_
    refine g_bipush (pc := 38) C (6 : Int32) d_La_add_38 (by decide) ?_
    refine g_icmp_le (pc := 40) C 45 d_La_add_40 rfl (fun e5 => ?_) (fun e5 => ?_)
    · have h := o_pos e5 h
      refine g_aload_n (pc := 45) C d_La_add_45 rfl 1 rfl ?_
      obtain ⟨b6, hnb6, hb6, h⟩ := o_ra h
      refine g_get (pc := 46) (k := 0) (v := va_rf ((N a0 0).map ad)) C gcX3 inX3 (by decide) fl_La_11 ha0 rfl d_La_add_46 ?_
      refine g_top (g_rf hnb6) ?_
      refine g_aload_n (pc := 49) C d_La_add_49 rfl 1 rfl ?_
      refine g_get (pc := 50) (k := 1) (v := .int (I a0 1)) C gcX3 inX3 (by decide) fl_La_16 ha0 rfl d_La_add_50 ?_
      obtain ⟨hi7, h⟩ := o_gd h
      obtain ⟨b8, hnb8, hb8, h⟩ := o_ra h
      refine g_aald (pc := 53) 3 2 C hb6 (Or.inl ⟨rfl, rfl, rfl⟩) hi7 hnb8 d_La_add_53 ?_
      refine g_astore (pc := 54) (lv' := [(7, .ref (ad b8)), (6, .int v1), (0, .ref (ad a0)), (1, .int p1), (2, .int p2), (3, .int p3), (4, .int p4), (5, .int p5)]) C d_La_add_54 (by decide) rfl ?_
      refine g_aload (pc := 56) C d_La_add_56 0 rfl ?_
      refine g_iconst (pc := 58) C (0 : Int32) d_La_add_58 (by decide) ?_
      refine g_iload_n (pc := 59) C d_La_add_59 rfl 3 rfl ?_
      obtain ⟨hi9, h⟩ := o_gd h
      refine g_iast (pc := 60) C hb8 hi9 d_La_add_60 ?_
      obtain ⟨I10, eI10, h⟩ := o_bd h
      rw [← eI10]
      refine g_aload (pc := 61) C d_La_add_61 0 rfl ?_
      refine g_iconst (pc := 63) C (1 : Int32) d_La_add_63 (by decide) ?_
      refine g_iload_n (pc := 64) C d_La_add_64 rfl 4 rfl ?_
      obtain ⟨hi11, h⟩ := o_gd h
      refine g_iast (pc := 65) C hb8 hi11 d_La_add_65 ?_
      obtain ⟨I12, eI12, h⟩ := o_bd h
      rw [← eI12]
      refine g_aload (pc := 66) C d_La_add_66 0 rfl ?_
      refine g_iconst (pc := 68) C (2 : Int32) d_La_add_68 (by decide) ?_
      refine g_iload_n (pc := 69) C d_La_add_69 rfl 5 rfl ?_
      obtain ⟨hi13, h⟩ := o_gd h
      refine g_iast (pc := 70) C hb8 hi13 d_La_add_70 ?_
      obtain ⟨I14, eI14, h⟩ := o_bd h
      rw [← eI14]
      refine g_aload (pc := 71) C d_La_add_71 0 rfl ?_
      refine g_iconst (pc := 73) C (3 : Int32) d_La_add_73 (by decide) ?_
      refine g_iload (pc := 74) C d_La_add_74 6 rfl ?_
      obtain ⟨hi15, h⟩ := o_gd h
      refine g_iast (pc := 76) C hb8 hi15 d_La_add_76 ?_
      obtain ⟨I16, eI16, h⟩ := o_bd h
      rw [← eI16]
      refine g_aload (pc := 77) C d_La_add_77 0 rfl ?_
      refine g_iconst (pc := 79) C (4 : Int32) d_La_add_79 (by decide) ?_
      refine g_iload (pc := 80) C d_La_add_80 7 rfl ?_
      obtain ⟨hi17, h⟩ := o_gd h
      refine g_iast (pc := 82) C hb8 hi17 d_La_add_82 ?_
      obtain ⟨I18, eI18, h⟩ := o_bd h
      rw [← eI18]
      refine g_aload_n (pc := 83) C d_La_add_83 rfl 2 rfl ?_
      refine g_dup (pc := 84) C d_La_add_84 rfl ?_
      refine g_get (pc := 85) (k := 1) (v := .int (I18 a0 1)) C gcX3 inX3 (by decide) fl_La_16 ha0 rfl d_La_add_85 ?_
      refine g_iconst (pc := 88) C (1 : Int32) d_La_add_88 (by decide) ?_
      refine g_iadd (pc := 89) C d_La_add_89 ?_
      refine g_put (pc := 90) (I' := up2 I18 a0 1 ((I18 a0 1) + (1 : Int32))) (J' := J) (N' := N) (k := 1) C gcX3 inX3 tyX3_ok nmX3 (by decide) fl_La_16 rfl ha0 (tyX3_ok 1 (by decide)) rfl rfl (Nat.le_of_ble_eq_true rfl) gs_3_1 (fun b hb => up2_of hb) (fun _ _ => rfl) (fun _ _ => rfl) d_La_add_90 ?_
      obtain ⟨I19, eI19, h⟩ := o_bd h
      rw [← eI19]
      refine g_iconst (pc := 93) C (1 : Int32) d_La_add_93 (by decide) ?_
      obtain rfl := o_ret h
      exact g_zret (pc := 94) C zn_1 d_La_add_94
    · have h := o_neg e5 h
      refine g_iconst (pc := 43) C (0 : Int32) d_La_add_43 (by decide) ?_
      obtain rfl := o_ret h
      exact g_zret (pc := 44) C zn_0 d_La_add_44
set_option maxRecDepth 20000 in
theorem w_La_add_9 {X : HX} {ad : Nat → Nat} {I : HI} {J : HJ} {N : HN} {r : HI × Int32} {a0 : Nat} {p1 : Int32} {p2 : Int32} {p3 : Int32} {p4 : Int32} {p5 : Int32} {s0 : Int32} (C : Cx X c_La_add RX3 8 (some .boolean) rm_La_add) (ha0 : gk Tc nC a0 (0, 3))
    (h : La_add_9 N a0 p1 p2 p3 p4 p5 I s0 = some r) : G Tc X ad nC 0 0 I J N (gE X Tc ad nC (r.1, J, N, fun _ => some (.int r.2))) 9 8 [(0, .ref (ad a0)), (1, .int p1), (2, .int p2), (3, .int p3), (4, .int p4), (5, .int p5)] [.int s0] := by
  refine g_iload (pc := 9) C d_La_add_9 4 rfl ?_
  refine g_if_eq (pc := 11) C 18 d_La_add_11 rfl (fun e1 => ?_) (fun e1 => ?_)
  · have h := o_pos e1 h
    refine g_iconst (pc := 18) C (0 : Int32) d_La_add_18 (by decide) ?_
    refine g_lv [0, 1, 2, 3, 4, 5] rfl ?_
    exact w_La_add_19 C ha0 h
  · have h := o_neg e1 h
    refine g_iconst (pc := 14) C (1 : Int32) d_La_add_14 (by decide) ?_
    refine g_goto (pc := 15) C 19 d_La_add_15 rfl ?_
    refine g_lv [0, 1, 2, 3, 4, 5] rfl ?_
    exact w_La_add_19 C ha0 h
set_option maxRecDepth 20000 in
theorem w_La_add_0 {X : HX} {ad : Nat → Nat} {I : HI} {J : HJ} {N : HN} {r : HI × Int32} {a0 : Nat} {p1 : Int32} {p2 : Int32} {p3 : Int32} {p4 : Int32} {p5 : Int32} (C : Cx X c_La_add RX3 8 (some .boolean) rm_La_add) (ha0 : gk Tc nC a0 (0, 3))
    (h : La_add_0 N a0 p1 p2 p3 p4 p5 I = some r) : G Tc X ad nC 0 0 I J N (gE X Tc ad nC (r.1, J, N, fun _ => some (.int r.2))) 0 8 [(0, .ref (ad a0)), (1, .int p1), (2, .int p2), (3, .int p3), (4, .int p4), (5, .int p5)] [] := by
  refine g_iload_n (pc := 0) C d_La_add_0 rfl 2 rfl ?_
  refine g_if_eq (pc := 1) C 8 d_La_add_1 rfl (fun e1 => ?_) (fun e1 => ?_)
  · have h := o_pos e1 h
    refine g_iconst (pc := 8) C (0 : Int32) d_La_add_8 (by decide) ?_
    refine g_lv [0, 1, 2, 3, 4, 5] rfl ?_
    exact w_La_add_9 C ha0 h
  · have h := o_neg e1 h
    refine g_iconst (pc := 4) C (1 : Int32) d_La_add_4 (by decide) ?_
    refine g_goto (pc := 5) C 9 d_La_add_5 rfl ?_
    refine g_lv [0, 1, 2, 3, 4, 5] rfl ?_
    exact w_La_add_9 C ha0 h
set_option maxRecDepth 20000 in
theorem k_La_add (l : Launch) {I : HI} {J : HJ} {N : HN} {a0 : Nat} {p1 : Int32} {p2 : Int32} {p3 : Int32} {p4 : Int32} {p5 : Int32} {r : HI × Int32} (ha0 : gk Tc nC a0 (0, 3)) (h : La_add N a0 p1 p2 p3 p4 p5 I = some r) : gM l y_La_add c_La_add 8 (some .boolean) rm_La_add Tc nC I J N (fun ad => [.ref (ad a0), .int p1, .int p2, .int p3, .int p4, .int p5]) (r.1, J, N, fun _ => some (.int r.2)) :=
  g_meth (lv := fun ad => [(0, .ref (ad a0)), (1, .int p1), (2, .int p2), (3, .int p3), (4, .int p4), (5, .int p5)]) (by decide) (fun _ => Nat.le_of_ble_eq_true rfl) (fun _ => rfl) (fun X ad C => g_lv [0, 1, 2, 3, 4, 5] rfl (w_La_add_0 C ha0 h))
theorem d_La_dropLast_0 : decode c_La_dropLast 0 = .ok (.aload_n 0, 1) := by decide +kernel
theorem d_La_dropLast_1 : decode c_La_dropLast 1 = .ok (.getfield 16, 3) := by decide +kernel
theorem d_La_dropLast_4 : decode c_La_dropLast 4 = .ok (.ifCond .le 13, 3) := by decide +kernel
theorem d_La_dropLast_7 : decode c_La_dropLast 7 = .ok (.aload_n 0, 1) := by decide +kernel
theorem d_La_dropLast_8 : decode c_La_dropLast 8 = .ok (.dup, 1) := by decide +kernel
theorem d_La_dropLast_9 : decode c_La_dropLast 9 = .ok (.getfield 16, 3) := by decide +kernel
theorem d_La_dropLast_12 : decode c_La_dropLast 12 = .ok (.iconst 1, 1) := by decide +kernel
theorem d_La_dropLast_13 : decode c_La_dropLast 13 = .ok (.isub, 1) := by decide +kernel
theorem d_La_dropLast_14 : decode c_La_dropLast 14 = .ok (.putfield 16, 3) := by decide +kernel
theorem d_La_dropLast_17 : decode c_La_dropLast 17 = .ok (.return_, 1) := by decide +kernel
set_option maxRecDepth 20000 in
theorem w_La_dropLast_0 {X : HX} {ad : Nat → Nat} {I : HI} {J : HJ} {N : HN} {r : HI} {a0 : Nat} (C : Cx X c_La_dropLast RX3 1 none rm_La_dropLast) (ha0 : gk Tc nC a0 (0, 3))
    (h : La_dropLast_0 a0 I = some r) : G Tc X ad nC 0 0 I J N (gE X Tc ad nC (r, J, N, fun _ => none)) 0 1 [(0, .ref (ad a0))] [] := by
  refine g_aload_n (pc := 0) C d_La_dropLast_0 rfl 0 rfl ?_
  refine g_get (pc := 1) (k := 1) (v := .int (I a0 1)) C gcX3 inX3 (by decide) fl_La_16 ha0 rfl d_La_dropLast_1 ?_
  refine g_if_le (pc := 4) C 17 d_La_dropLast_4 rfl (fun e1 => ?_) (fun e1 => ?_)
  · have h := o_pos e1 h
    obtain rfl := o_ret h
    exact g_vret (pc := 17) C d_La_dropLast_17
  · have h := o_neg e1 h
    refine g_aload_n (pc := 7) C d_La_dropLast_7 rfl 0 rfl ?_
    refine g_dup (pc := 8) C d_La_dropLast_8 rfl ?_
    refine g_get (pc := 9) (k := 1) (v := .int (I a0 1)) C gcX3 inX3 (by decide) fl_La_16 ha0 rfl d_La_dropLast_9 ?_
    refine g_iconst (pc := 12) C (1 : Int32) d_La_dropLast_12 (by decide) ?_
    refine g_isub (pc := 13) C d_La_dropLast_13 ?_
    refine g_put (pc := 14) (I' := up2 I a0 1 ((I a0 1) - (1 : Int32))) (J' := J) (N' := N) (k := 1) C gcX3 inX3 tyX3_ok nmX3 (by decide) fl_La_16 rfl ha0 (tyX3_ok 1 (by decide)) rfl rfl (Nat.le_of_ble_eq_true rfl) gs_3_1 (fun b hb => up2_of hb) (fun _ _ => rfl) (fun _ _ => rfl) d_La_dropLast_14 ?_
    obtain ⟨I2, eI2, h⟩ := o_bd h
    rw [← eI2]
    obtain rfl := o_ret h
    exact g_vret (pc := 17) C d_La_dropLast_17
set_option maxRecDepth 20000 in
theorem k_La_dropLast (l : Launch) {I : HI} {J : HJ} {N : HN} {a0 : Nat} {r : HI} (ha0 : gk Tc nC a0 (0, 3)) (h : La_dropLast a0 I = some r) : gM l y_La_dropLast c_La_dropLast 1 none rm_La_dropLast Tc nC I J N (fun ad => [.ref (ad a0)]) (r, J, N, fun _ => none) :=
  g_meth (lv := fun ad => [(0, .ref (ad a0))]) (by decide) (fun _ => Nat.le_of_ble_eq_true rfl) (fun _ => rfl) (fun X ad C => g_lv [0] rfl (w_La_dropLast_0 C ha0 h))
theorem d_La_clear_0 : decode c_La_clear 0 = .ok (.aload_n 0, 1) := by decide +kernel
theorem d_La_clear_1 : decode c_La_clear 1 = .ok (.iconst 0, 1) := by decide +kernel
theorem d_La_clear_2 : decode c_La_clear 2 = .ok (.putfield 16, 3) := by decide +kernel
theorem d_La_clear_5 : decode c_La_clear 5 = .ok (.return_, 1) := by decide +kernel
set_option maxRecDepth 20000 in
theorem w_La_clear_0 {X : HX} {ad : Nat → Nat} {I : HI} {J : HJ} {N : HN} {r : HI} {a0 : Nat} (C : Cx X c_La_clear RX3 1 none rm_La_clear) (ha0 : gk Tc nC a0 (0, 3))
    (h : La_clear_0 a0 I = some r) : G Tc X ad nC 0 0 I J N (gE X Tc ad nC (r, J, N, fun _ => none)) 0 1 [(0, .ref (ad a0))] [] := by
  refine g_aload_n (pc := 0) C d_La_clear_0 rfl 0 rfl ?_
  refine g_iconst (pc := 1) C (0 : Int32) d_La_clear_1 (by decide) ?_
  refine g_put (pc := 2) (I' := up2 I a0 1 (0 : Int32)) (J' := J) (N' := N) (k := 1) C gcX3 inX3 tyX3_ok nmX3 (by decide) fl_La_16 rfl ha0 (tyX3_ok 1 (by decide)) rfl rfl (Nat.le_of_ble_eq_true rfl) gs_3_1 (fun b hb => up2_of hb) (fun _ _ => rfl) (fun _ _ => rfl) d_La_clear_2 ?_
  obtain ⟨I1, eI1, h⟩ := o_bd h
  rw [← eI1]
  obtain rfl := o_ret h
  exact g_vret (pc := 5) C d_La_clear_5
set_option maxRecDepth 20000 in
theorem k_La_clear (l : Launch) {I : HI} {J : HJ} {N : HN} {a0 : Nat} {r : HI} (ha0 : gk Tc nC a0 (0, 3)) (h : La_clear a0 I = some r) : gM l y_La_clear c_La_clear 1 none rm_La_clear Tc nC I J N (fun ad => [.ref (ad a0)]) (r, J, N, fun _ => none) :=
  g_meth (lv := fun ad => [(0, .ref (ad a0))]) (by decide) (fun _ => Nat.le_of_ble_eq_true rfl) (fun _ => rfl) (fun X ad C => g_lv [0] rfl (w_La_clear_0 C ha0 h))
theorem d_La_load_0 : decode c_La_load 0 = .ok (.aload_n 0, 1) := by decide +kernel
theorem d_La_load_1 : decode c_La_load 1 = .ok (.aload_n 1, 1) := by decide +kernel
theorem d_La_load_2 : decode c_La_load 2 = .ok (.getfield 16, 3) := by decide +kernel
theorem d_La_load_5 : decode c_La_load 5 = .ok (.putfield 16, 3) := by decide +kernel
theorem d_La_load_8 : decode c_La_load 8 = .ok (.iconst 0, 1) := by decide +kernel
theorem d_La_load_9 : decode c_La_load 9 = .ok (.istore_n 2, 1) := by decide +kernel
theorem d_La_load_10 : decode c_La_load 10 = .ok (.iload_n 2, 1) := by decide +kernel
theorem d_La_load_11 : decode c_La_load 11 = .ok (.aload_n 0, 1) := by decide +kernel
theorem d_La_load_12 : decode c_La_load 12 = .ok (.getfield 16, 3) := by decide +kernel
theorem d_La_load_15 : decode c_La_load 15 = .ok (.if_icmp .ge 42, 3) := by decide +kernel
theorem d_La_load_18 : decode c_La_load 18 = .ok (.iload_n 2, 1) := by decide +kernel
theorem d_La_load_19 : decode c_La_load 19 = .ok (.bipush 6, 2) := by decide +kernel
theorem d_La_load_21 : decode c_La_load 21 = .ok (.if_icmp .ge 36, 3) := by decide +kernel
theorem d_La_load_24 : decode c_La_load 24 = .ok (.iconst 0, 1) := by decide +kernel
theorem d_La_load_25 : decode c_La_load 25 = .ok (.istore_n 3, 1) := by decide +kernel
theorem d_La_load_26 : decode c_La_load 26 = .ok (.iload_n 3, 1) := by decide +kernel
theorem d_La_load_27 : decode c_La_load 27 = .ok (.iconst 5, 1) := by decide +kernel
theorem d_La_load_28 : decode c_La_load 28 = .ok (.if_icmp .ge 23, 3) := by decide +kernel
theorem d_La_load_31 : decode c_La_load 31 = .ok (.aload_n 0, 1) := by decide +kernel
theorem d_La_load_32 : decode c_La_load 32 = .ok (.getfield 11, 3) := by decide +kernel
theorem d_La_load_35 : decode c_La_load 35 = .ok (.iload_n 2, 1) := by decide +kernel
theorem d_La_load_36 : decode c_La_load 36 = .ok (.aaload, 1) := by decide +kernel
theorem d_La_load_37 : decode c_La_load 37 = .ok (.iload_n 3, 1) := by decide +kernel
theorem d_La_load_38 : decode c_La_load 38 = .ok (.aload_n 1, 1) := by decide +kernel
theorem d_La_load_39 : decode c_La_load 39 = .ok (.iload_n 2, 1) := by decide +kernel
theorem d_La_load_40 : decode c_La_load 40 = .ok (.iload_n 3, 1) := by decide +kernel
theorem d_La_load_41 : decode c_La_load 41 = .ok (.invokevirtual 24, 3) := by decide +kernel
theorem d_La_load_44 : decode c_La_load 44 = .ok (.iastore, 1) := by decide +kernel
theorem d_La_load_45 : decode c_La_load 45 = .ok (.iinc 3 1, 3) := by decide +kernel
theorem d_La_load_48 : decode c_La_load 48 = .ok (.goto (-22), 3) := by decide +kernel
theorem d_La_load_51 : decode c_La_load 51 = .ok (.iinc 2 1, 3) := by decide +kernel
theorem d_La_load_54 : decode c_La_load 54 = .ok (.goto (-44), 3) := by decide +kernel
theorem d_La_load_57 : decode c_La_load 57 = .ok (.return_, 1) := by decide +kernel
set_option maxRecDepth 20000 in
theorem w_La_load_26b {X : HX} {ad : Nat → Nat} {I : HI} {J : HJ} {N : HN} {r : HI} {k10 : HI → Int32 → Option (HI)} {k26 : HI → Int32 → Int32 → Option (HI)} {a0 : Nat} {a1 : Nat} {x2 : Int32} {x3 : Int32} (C : Cx X c_La_load RX3 4 none rm_La_load) (ha0 : gk Tc nC a0 (0, 3)) (ha1 : gk Tc nC a1 (0, 3))
    (hk10 : ∀ (I : HI) (x2 : Int32), k10 I x2 = some r → G Tc X ad nC 0 0 I J N (gE X Tc ad nC (r, J, N, fun _ => none)) 10 4 [(0, .ref (ad a0)), (1, .ref (ad a1)), (2, .int x2)] [])
    (hk26 : ∀ (I : HI) (x2 : Int32) (x3 : Int32), k26 I x2 x3 = some r → G Tc X ad nC 0 0 I J N (gE X Tc ad nC (r, J, N, fun _ => none)) 26 4 [(0, .ref (ad a0)), (1, .ref (ad a1)), (2, .int x2), (3, .int x3)] [])
    (h : La_load_26b N a0 a1 k10 k26 I x2 x3 = some r) : G Tc X ad nC 0 0 I J N (gE X Tc ad nC (r, J, N, fun _ => none)) 26 4 [(0, .ref (ad a0)), (1, .ref (ad a1)), (2, .int x2), (3, .int x3)] [] := by
  refine g_iload_n (pc := 26) C d_La_load_26 rfl 3 rfl ?_
  refine g_iconst (pc := 27) C (5 : Int32) d_La_load_27 (by decide) ?_
  refine g_icmp_ge (pc := 28) C 51 d_La_load_28 rfl (fun e1 => ?_) (fun e1 => ?_)
  · have h := o_pos e1 h
    refine g_iinc (pc := 51) (q := 2) (lv' := [(2, .int (x2 + 1)), (0, .ref (ad a0)), (1, .ref (ad a1)), (3, .int x3)]) C d_La_load_51 rfl rfl (by decide) rfl ?_
    refine g_goto (pc := 54) C 10 d_La_load_54 rfl ?_
    refine g_lv [1, 2, 0] rfl ?_
    exact hk10 _ _ h
  · have h := o_neg e1 h
    refine g_aload_n (pc := 31) C d_La_load_31 rfl 0 rfl ?_
    obtain ⟨b2, hnb2, hb2, h⟩ := o_ra h
    refine g_get (pc := 32) (k := 0) (v := va_rf ((N a0 0).map ad)) C gcX3 inX3 (by decide) fl_La_11 ha0 rfl d_La_load_32 ?_
    refine g_top (g_rf hnb2) ?_
    refine g_iload_n (pc := 35) C d_La_load_35 rfl 2 rfl ?_
    obtain ⟨hi3, h⟩ := o_gd h
    obtain ⟨b4, hnb4, hb4, h⟩ := o_ra h
    refine g_aald (pc := 36) 3 2 C hb2 (Or.inl ⟨rfl, rfl, rfl⟩) hi3 hnb4 d_La_load_36 ?_
    refine g_iload_n (pc := 37) C d_La_load_37 rfl 3 rfl ?_
    refine g_aload_n (pc := 38) C d_La_load_38 rfl 1 rfl ?_
    refine g_iload_n (pc := 39) C d_La_load_39 rfl 2 rfl ?_
    refine g_iload_n (pc := 40) C d_La_load_40 rfl 3 rfl ?_
    obtain ⟨r5, hc6, h⟩ := o_bn1 h
    refine g_V (pc := 41) (rest := [.int x3, .ref (ad b4)]) C (k_La_item (xl X) ha1 hc6) sm_La_item ml_La_24 im_La_item se_La_item gcX3 rfl ha1 ⟨rfl, rfl, Nat.le_of_ble_eq_true rfl, Nat.le_of_ble_eq_true rfl⟩ ⟨Nat.zero_le _, Nat.zero_le _⟩ rfl rfl (Nat.le_of_ble_eq_true rfl) d_La_load_41 [.int r5, .int x3, .ref (ad b4)] rfl ?_
    obtain ⟨hi7, h⟩ := o_gd h
    refine g_iast (pc := 44) C hb4 hi7 d_La_load_44 ?_
    obtain ⟨I8, eI8, h⟩ := o_bd h
    rw [← eI8]
    refine g_iinc (pc := 45) (q := 3) (lv' := [(3, .int (x3 + 1)), (0, .ref (ad a0)), (1, .ref (ad a1)), (2, .int x2)]) C d_La_load_45 rfl rfl (by decide) rfl ?_
    refine g_goto (pc := 48) C 26 d_La_load_48 rfl ?_
    refine g_lv [1, 2, 3, 0] rfl ?_
    exact hk26 _ _ _ h
set_option maxRecDepth 20000 in
theorem w_La_load_26 {X : HX} {ad : Nat → Nat} {J : HJ} {N : HN} {r : HI} {k10 : HI → Int32 → Option (HI)} {a0 : Nat} {a1 : Nat} (C : Cx X c_La_load RX3 4 none rm_La_load) (ha0 : gk Tc nC a0 (0, 3)) (ha1 : gk Tc nC a1 (0, 3))
    (hk10 : ∀ (I : HI) (x2 : Int32), k10 I x2 = some r → G Tc X ad nC 0 0 I J N (gE X Tc ad nC (r, J, N, fun _ => none)) 10 4 [(0, .ref (ad a0)), (1, .ref (ad a1)), (2, .int x2)] []) : ∀ (n : Nat) (I : HI) (x2 : Int32) (x3 : Int32), La_load_26 N a0 a1 k10 n I x2 x3 = some r → G Tc X ad nC 0 0 I J N (gE X Tc ad nC (r, J, N, fun _ => none)) 26 4 [(0, .ref (ad a0)), (1, .ref (ad a1)), (2, .int x2), (3, .int x3)] [] := by
  intro n
  induction n with
  | zero => intro I x2 x3 h; cases h
  | succ n ih => intro I x2 x3 h; exact w_La_load_26b C ha0 ha1 hk10 ih h
set_option maxRecDepth 20000 in
theorem w_La_load_10b {X : HX} {ad : Nat → Nat} {I : HI} {J : HJ} {N : HN} {r : HI} {k10 : HI → Int32 → Option (HI)} {a0 : Nat} {a1 : Nat} {x2 : Int32} (C : Cx X c_La_load RX3 4 none rm_La_load) (ha0 : gk Tc nC a0 (0, 3)) (ha1 : gk Tc nC a1 (0, 3))
    (hk10 : ∀ (I : HI) (x2 : Int32), k10 I x2 = some r → G Tc X ad nC 0 0 I J N (gE X Tc ad nC (r, J, N, fun _ => none)) 10 4 [(0, .ref (ad a0)), (1, .ref (ad a1)), (2, .int x2)] [])
    (h : La_load_10b N a0 a1 k10 I x2 = some r) : G Tc X ad nC 0 0 I J N (gE X Tc ad nC (r, J, N, fun _ => none)) 10 4 [(0, .ref (ad a0)), (1, .ref (ad a1)), (2, .int x2)] [] := by
  refine g_iload_n (pc := 10) C d_La_load_10 rfl 2 rfl ?_
  refine g_aload_n (pc := 11) C d_La_load_11 rfl 0 rfl ?_
  refine g_get (pc := 12) (k := 1) (v := .int (I a0 1)) C gcX3 inX3 (by decide) fl_La_16 ha0 rfl d_La_load_12 ?_
  refine g_icmp_ge (pc := 15) C 57 d_La_load_15 rfl (fun e1 => ?_) (fun e1 => ?_)
  · have h := o_pos e1 h
    obtain rfl := o_ret h
    exact g_vret (pc := 57) C d_La_load_57
  · have h := o_neg e1 h
    refine g_iload_n (pc := 18) C d_La_load_18 rfl 2 rfl ?_
    refine g_bipush (pc := 19) C (6 : Int32) d_La_load_19 (by decide) ?_
    refine g_icmp_ge (pc := 21) C 57 d_La_load_21 rfl (fun e2 => ?_) (fun e2 => ?_)
    · have h := o_pos e2 h
      obtain rfl := o_ret h
      exact g_vret (pc := 57) C d_La_load_57
    · have h := o_neg e2 h
      refine g_iconst (pc := 24) C (0 : Int32) d_La_load_24 (by decide) ?_
      refine g_istore_n (pc := 25) (lv' := [(3, .int (0 : Int32)), (0, .ref (ad a0)), (1, .ref (ad a1)), (2, .int x2)]) C d_La_load_25 rfl (by decide) rfl ?_
      refine g_lv [1, 2, 3, 0] rfl ?_
      exact w_La_load_26 C ha0 ha1 hk10 _ _ _ _ h
set_option maxRecDepth 20000 in
theorem w_La_load_10 {X : HX} {ad : Nat → Nat} {J : HJ} {N : HN} {r : HI} {a0 : Nat} {a1 : Nat} (C : Cx X c_La_load RX3 4 none rm_La_load) (ha0 : gk Tc nC a0 (0, 3)) (ha1 : gk Tc nC a1 (0, 3)) : ∀ (n : Nat) (I : HI) (x2 : Int32), La_load_10 N a0 a1 n I x2 = some r → G Tc X ad nC 0 0 I J N (gE X Tc ad nC (r, J, N, fun _ => none)) 10 4 [(0, .ref (ad a0)), (1, .ref (ad a1)), (2, .int x2)] [] := by
  intro n
  induction n with
  | zero => intro I x2 h; cases h
  | succ n ih => intro I x2 h; exact w_La_load_10b C ha0 ha1 ih h
set_option maxRecDepth 20000 in
theorem w_La_load_0 {X : HX} {ad : Nat → Nat} {I : HI} {J : HJ} {N : HN} {r : HI} {a0 : Nat} {a1 : Nat} (C : Cx X c_La_load RX3 4 none rm_La_load) (ha0 : gk Tc nC a0 (0, 3)) (ha1 : gk Tc nC a1 (0, 3))
    (h : La_load_0 N a0 a1 I = some r) : G Tc X ad nC 0 0 I J N (gE X Tc ad nC (r, J, N, fun _ => none)) 0 4 [(0, .ref (ad a0)), (1, .ref (ad a1))] [] := by
  refine g_aload_n (pc := 0) C d_La_load_0 rfl 0 rfl ?_
  refine g_aload_n (pc := 1) C d_La_load_1 rfl 1 rfl ?_
  refine g_get (pc := 2) (k := 1) (v := .int (I a1 1)) C gcX3 inX3 (by decide) fl_La_16 ha1 rfl d_La_load_2 ?_
  refine g_put (pc := 5) (I' := up2 I a0 1 (I a1 1)) (J' := J) (N' := N) (k := 1) C gcX3 inX3 tyX3_ok nmX3 (by decide) fl_La_16 rfl ha0 (tyX3_ok 1 (by decide)) rfl rfl (Nat.le_of_ble_eq_true rfl) gs_3_1 (fun b hb => up2_of hb) (fun _ _ => rfl) (fun _ _ => rfl) d_La_load_5 ?_
  obtain ⟨I1, eI1, h⟩ := o_bd h
  rw [← eI1]
  refine g_iconst (pc := 8) C (0 : Int32) d_La_load_8 (by decide) ?_
  refine g_istore_n (pc := 9) (lv' := [(2, .int (0 : Int32)), (0, .ref (ad a0)), (1, .ref (ad a1))]) C d_La_load_9 rfl (by decide) rfl ?_
  refine g_lv [1, 2, 0] rfl ?_
  exact w_La_load_10 C ha0 ha1 _ _ _ h
set_option maxRecDepth 20000 in
theorem k_La_load (l : Launch) {I : HI} {J : HJ} {N : HN} {a0 : Nat} {a1 : Nat} {r : HI} (ha0 : gk Tc nC a0 (0, 3)) (ha1 : gk Tc nC a1 (0, 3)) (h : La_load N a0 a1 I = some r) : gM l y_La_load c_La_load 4 none rm_La_load Tc nC I J N (fun ad => [.ref (ad a0), .ref (ad a1)]) (r, J, N, fun _ => none) :=
  g_meth (lv := fun ad => [(0, .ref (ad a0)), (1, .ref (ad a1))]) (by decide) (fun _ => Nat.le_of_ble_eq_true rfl) (fun _ => rfl) (fun X ad C => g_lv [0, 1] rfl (w_La_load_0 C ha0 ha1 h))
theorem d_Me_holds_0 : decode c_Me_holds 0 = .ok (.iload_n 1, 1) := by decide +kernel
theorem d_Me_holds_1 : decode c_Me_holds 1 = .ok (.ifCond .lt 15, 3) := by decide +kernel
theorem d_Me_holds_4 : decode c_Me_holds 4 = .ok (.iload_n 1, 1) := by decide +kernel
theorem d_Me_holds_5 : decode c_Me_holds 5 = .ok (.aload_n 0, 1) := by decide +kernel
theorem d_Me_holds_6 : decode c_Me_holds 6 = .ok (.getfield 23, 3) := by decide +kernel
theorem d_Me_holds_9 : decode c_Me_holds 9 = .ok (.if_icmp .ge 7, 3) := by decide +kernel
theorem d_Me_holds_12 : decode c_Me_holds 12 = .ok (.iconst 1, 1) := by decide +kernel
theorem d_Me_holds_13 : decode c_Me_holds 13 = .ok (.goto 4, 3) := by decide +kernel
theorem d_Me_holds_16 : decode c_Me_holds 16 = .ok (.iconst 0, 1) := by decide +kernel
theorem d_Me_holds_17 : decode c_Me_holds 17 = .ok (.ireturn, 1) := by decide +kernel
set_option maxRecDepth 20000 in
theorem w_Me_holds_0 {X : HX} {ad : Nat → Nat} {I : HI} {J : HJ} {N : HN} {r : Int32} {a0 : Nat} {p1 : Int32} (C : Cx X c_Me_holds RX4 2 (some .boolean) rm_Me_holds) (ha0 : gk Tc nC a0 (0, 4))
    (h : Me_holds_0 I a0 p1 = some r) : G Tc X ad nC 0 0 I J N (gE X Tc ad nC (I, J, N, fun _ => some (.int r))) 0 2 [(0, .ref (ad a0)), (1, .int p1)] [] := by
  refine g_iload_n (pc := 0) C d_Me_holds_0 rfl 1 rfl ?_
  refine g_if_lt (pc := 1) C 16 d_Me_holds_1 rfl (fun e1 => ?_) (fun e1 => ?_)
  · have h := o_pos e1 h
    refine g_iconst (pc := 16) C (0 : Int32) d_Me_holds_16 (by decide) ?_
    obtain rfl := o_ret h
    exact g_zret (pc := 17) C zn_0 d_Me_holds_17
  · have h := o_neg e1 h
    refine g_iload_n (pc := 4) C d_Me_holds_4 rfl 1 rfl ?_
    refine g_aload_n (pc := 5) C d_Me_holds_5 rfl 0 rfl ?_
    refine g_get (pc := 6) (k := 2) (v := .int (I a0 2)) C gcX4 inX4 (by decide) fl_Me_23 ha0 rfl d_Me_holds_6 ?_
    refine g_icmp_ge (pc := 9) C 16 d_Me_holds_9 rfl (fun e2 => ?_) (fun e2 => ?_)
    · have h := o_pos e2 h
      refine g_iconst (pc := 16) C (0 : Int32) d_Me_holds_16 (by decide) ?_
      obtain rfl := o_ret h
      exact g_zret (pc := 17) C zn_0 d_Me_holds_17
    · have h := o_neg e2 h
      refine g_iconst (pc := 12) C (1 : Int32) d_Me_holds_12 (by decide) ?_
      refine g_goto (pc := 13) C 17 d_Me_holds_13 rfl ?_
      obtain rfl := o_ret h
      exact g_zret (pc := 17) C zn_1 d_Me_holds_17
set_option maxRecDepth 20000 in
theorem k_Me_holds (l : Launch) {I : HI} {J : HJ} {N : HN} {a0 : Nat} {p1 : Int32} {r : Int32} (ha0 : gk Tc nC a0 (0, 4)) (h : Me_holds I a0 p1 = some r) : gM l y_Me_holds c_Me_holds 2 (some .boolean) rm_Me_holds Tc nC I J N (fun ad => [.ref (ad a0), .int p1]) (I, J, N, fun _ => some (.int r)) :=
  g_meth (lv := fun ad => [(0, .ref (ad a0)), (1, .int p1)]) (by decide) (fun _ => Nat.le_of_ble_eq_true rfl) (fun _ => rfl) (fun X ad C => g_lv [0, 1] rfl (w_Me_holds_0 C ha0 h))
theorem d_Me_item_0 : decode c_Me_item 0 = .ok (.aload_n 0, 1) := by decide +kernel
theorem d_Me_item_1 : decode c_Me_item 1 = .ok (.iload_n 1, 1) := by decide +kernel
theorem d_Me_item_2 : decode c_Me_item 2 = .ok (.invokevirtual 27, 3) := by decide +kernel
theorem d_Me_item_5 : decode c_Me_item 5 = .ok (.ifCond .eq 23, 3) := by decide +kernel
theorem d_Me_item_8 : decode c_Me_item 8 = .ok (.iload_n 1, 1) := by decide +kernel
theorem d_Me_item_9 : decode c_Me_item 9 = .ok (.bipush 12, 2) := by decide +kernel
theorem d_Me_item_11 : decode c_Me_item 11 = .ok (.if_icmp .ge 17, 3) := by decide +kernel
theorem d_Me_item_14 : decode c_Me_item 14 = .ok (.iload_n 2, 1) := by decide +kernel
theorem d_Me_item_15 : decode c_Me_item 15 = .ok (.ifCond .lt 13, 3) := by decide +kernel
theorem d_Me_item_18 : decode c_Me_item 18 = .ok (.iload_n 2, 1) := by decide +kernel
theorem d_Me_item_19 : decode c_Me_item 19 = .ok (.bipush 15, 2) := by decide +kernel
theorem d_Me_item_21 : decode c_Me_item 21 = .ok (.if_icmp .ge 7, 3) := by decide +kernel
theorem d_Me_item_24 : decode c_Me_item 24 = .ok (.iconst 1, 1) := by decide +kernel
theorem d_Me_item_25 : decode c_Me_item 25 = .ok (.goto 4, 3) := by decide +kernel
theorem d_Me_item_28 : decode c_Me_item 28 = .ok (.iconst 0, 1) := by decide +kernel
theorem d_Me_item_29 : decode c_Me_item 29 = .ok (.istore_n 3, 1) := by decide +kernel
theorem d_Me_item_30 : decode c_Me_item 30 = .ok (.iload_n 3, 1) := by decide +kernel
theorem d_Me_item_31 : decode c_Me_item 31 = .ok (.ifCond .eq 14, 3) := by decide +kernel
theorem d_Me_item_34 : decode c_Me_item 34 = .ok (.aload_n 0, 1) := by decide +kernel
theorem d_Me_item_35 : decode c_Me_item 35 = .ok (.getfield 11, 3) := by decide +kernel
theorem d_Me_item_38 : decode c_Me_item 38 = .ok (.iload_n 1, 1) := by decide +kernel
theorem d_Me_item_39 : decode c_Me_item 39 = .ok (.aaload, 1) := by decide +kernel
theorem d_Me_item_40 : decode c_Me_item 40 = .ok (.iload_n 2, 1) := by decide +kernel
theorem d_Me_item_41 : decode c_Me_item 41 = .ok (.iaload, 1) := by decide +kernel
theorem d_Me_item_42 : decode c_Me_item 42 = .ok (.goto 4, 3) := by decide +kernel
theorem d_Me_item_45 : decode c_Me_item 45 = .ok (.iconst 0, 1) := by decide +kernel
theorem d_Me_item_46 : decode c_Me_item 46 = .ok (.ireturn, 1) := by decide +kernel
set_option maxRecDepth 20000 in
theorem w_Me_item_29 {X : HX} {ad : Nat → Nat} {I : HI} {J : HJ} {N : HN} {r : Int32} {a0 : Nat} {p1 : Int32} {p2 : Int32} {s0 : Int32} (C : Cx X c_Me_item RX4 4 (some .int) rm_Me_item) (ha0 : gk Tc nC a0 (0, 4))
    (h : Me_item_29 I N a0 p1 p2 s0 = some r) : G Tc X ad nC 0 0 I J N (gE X Tc ad nC (I, J, N, fun _ => some (.int r))) 29 4 [(0, .ref (ad a0)), (1, .int p1), (2, .int p2)] [.int s0] := by
  refine g_istore_n (pc := 29) (lv' := [(3, .int s0), (0, .ref (ad a0)), (1, .int p1), (2, .int p2)]) C d_Me_item_29 rfl (by decide) rfl ?_
  refine g_iload_n (pc := 30) C d_Me_item_30 rfl 0 rfl ?_
  refine g_if_eq (pc := 31) C 45 d_Me_item_31 rfl (fun e1 => ?_) (fun e1 => ?_)
  · have h := o_pos e1 h
    refine g_iconst (pc := 45) C (0 : Int32) d_Me_item_45 (by decide) ?_
    obtain rfl := o_ret h
    exact g_iret (pc := 46) C d_Me_item_46
  · have h := o_neg e1 h
    refine g_aload_n (pc := 34) C d_Me_item_34 rfl 1 rfl ?_
    obtain ⟨b2, hnb2, hb2, h⟩ := o_ra h
    refine g_get (pc := 35) (k := 0) (v := va_rf ((N a0 0).map ad)) C gcX4 inX4 (by decide) fl_Me_11 ha0 rfl d_Me_item_35 ?_
    refine g_top (g_rf hnb2) ?_
    refine g_iload_n (pc := 38) C d_Me_item_38 rfl 2 rfl ?_
    obtain ⟨hi3, h⟩ := o_gd h
    obtain ⟨b4, hnb4, hb4, h⟩ := o_ra h
    refine g_aald (pc := 39) 3 2 C hb2 (Or.inl ⟨rfl, rfl, rfl⟩) hi3 hnb4 d_Me_item_39 ?_
    refine g_iload_n (pc := 40) C d_Me_item_40 rfl 3 rfl ?_
    obtain ⟨hi5, h⟩ := o_gd h
    refine g_iald (pc := 41) C hb4 hi5 d_Me_item_41 ?_
    refine g_goto (pc := 42) C 46 d_Me_item_42 rfl ?_
    obtain rfl := o_ret h
    exact g_iret (pc := 46) C d_Me_item_46
set_option maxRecDepth 20000 in
theorem w_Me_item_28 {X : HX} {ad : Nat → Nat} {I : HI} {J : HJ} {N : HN} {r : Int32} {a0 : Nat} {p1 : Int32} {p2 : Int32} (C : Cx X c_Me_item RX4 4 (some .int) rm_Me_item) (ha0 : gk Tc nC a0 (0, 4))
    (h : Me_item_28 I N a0 p1 p2 = some r) : G Tc X ad nC 0 0 I J N (gE X Tc ad nC (I, J, N, fun _ => some (.int r))) 28 4 [(0, .ref (ad a0)), (1, .int p1), (2, .int p2)] [] := by
  refine g_iconst (pc := 28) C (0 : Int32) d_Me_item_28 (by decide) ?_
  refine g_lv [0, 1, 2] rfl ?_
  exact w_Me_item_29 C ha0 h
set_option maxRecDepth 20000 in
theorem w_Me_item_0 {X : HX} {ad : Nat → Nat} {I : HI} {J : HJ} {N : HN} {r : Int32} {a0 : Nat} {p1 : Int32} {p2 : Int32} (C : Cx X c_Me_item RX4 4 (some .int) rm_Me_item) (ha0 : gk Tc nC a0 (0, 4))
    (h : Me_item_0 I N a0 p1 p2 = some r) : G Tc X ad nC 0 0 I J N (gE X Tc ad nC (I, J, N, fun _ => some (.int r))) 0 4 [(0, .ref (ad a0)), (1, .int p1), (2, .int p2)] [] := by
  refine g_aload_n (pc := 0) C d_Me_item_0 rfl 0 rfl ?_
  refine g_iload_n (pc := 1) C d_Me_item_1 rfl 1 rfl ?_
  obtain ⟨r1, hc2, h⟩ := o_bn1 h
  refine g_V (pc := 2) (rest := []) C (k_Me_holds (xl X) ha0 hc2) sm_Me_holds ml_Me_27 im_Me_holds se_Me_holds gcX4 rfl ha0 ⟨rfl, rfl, Nat.le_of_ble_eq_true rfl, Nat.le_of_ble_eq_true rfl⟩ ⟨Nat.zero_le _, Nat.zero_le _⟩ rfl rfl (Nat.le_of_ble_eq_true rfl) d_Me_item_2 [.int r1] rfl ?_
  refine g_if_eq (pc := 5) C 28 d_Me_item_5 rfl (fun e3 => ?_) (fun e3 => ?_)
  · have h := o_pos e3 h
    refine g_lv [0, 1, 2] rfl ?_
    exact w_Me_item_28 C ha0 h
  · have h := o_neg e3 h
    refine g_iload_n (pc := 8) C d_Me_item_8 rfl 1 rfl ?_
    refine g_bipush (pc := 9) C (12 : Int32) d_Me_item_9 (by decide) ?_
    refine g_icmp_ge (pc := 11) C 28 d_Me_item_11 rfl (fun e4 => ?_) (fun e4 => ?_)
    · have h := o_pos e4 h
      refine g_lv [0, 1, 2] rfl ?_
      exact w_Me_item_28 C ha0 h
    · have h := o_neg e4 h
      refine g_iload_n (pc := 14) C d_Me_item_14 rfl 2 rfl ?_
      refine g_if_lt (pc := 15) C 28 d_Me_item_15 rfl (fun e5 => ?_) (fun e5 => ?_)
      · have h := o_pos e5 h
        refine g_lv [0, 1, 2] rfl ?_
        exact w_Me_item_28 C ha0 h
      · have h := o_neg e5 h
        refine g_iload_n (pc := 18) C d_Me_item_18 rfl 2 rfl ?_
        refine g_bipush (pc := 19) C (15 : Int32) d_Me_item_19 (by decide) ?_
        refine g_icmp_ge (pc := 21) C 28 d_Me_item_21 rfl (fun e6 => ?_) (fun e6 => ?_)
        · have h := o_pos e6 h
          refine g_lv [0, 1, 2] rfl ?_
          exact w_Me_item_28 C ha0 h
        · have h := o_neg e6 h
          refine g_iconst (pc := 24) C (1 : Int32) d_Me_item_24 (by decide) ?_
          refine g_goto (pc := 25) C 29 d_Me_item_25 rfl ?_
          refine g_lv [0, 1, 2] rfl ?_
          exact w_Me_item_29 C ha0 h
set_option maxRecDepth 20000 in
theorem k_Me_item (l : Launch) {I : HI} {J : HJ} {N : HN} {a0 : Nat} {p1 : Int32} {p2 : Int32} {r : Int32} (ha0 : gk Tc nC a0 (0, 4)) (h : Me_item I N a0 p1 p2 = some r) : gM l y_Me_item c_Me_item 4 (some .int) rm_Me_item Tc nC I J N (fun ad => [.ref (ad a0), .int p1, .int p2]) (I, J, N, fun _ => some (.int r)) :=
  g_meth (lv := fun ad => [(0, .ref (ad a0)), (1, .int p1), (2, .int p2)]) (by decide) (fun _ => Nat.le_of_ble_eq_true rfl) (fun _ => rfl) (fun X ad C => g_lv [0, 1, 2] rfl (w_Me_item_0 C ha0 h))
theorem d_Me_isSought_0 : decode c_Me_isSought 0 = .ok (.iconst 0, 1) := by decide +kernel
theorem d_Me_isSought_1 : decode c_Me_isSought 1 = .ok (.istore_n 2, 1) := by decide +kernel
theorem d_Me_isSought_2 : decode c_Me_isSought 2 = .ok (.iload_n 2, 1) := by decide +kernel
theorem d_Me_isSought_3 : decode c_Me_isSought 3 = .ok (.bipush 14, 2) := by decide +kernel
theorem d_Me_isSought_5 : decode c_Me_isSought 5 = .ok (.if_icmp .ge 32, 3) := by decide +kernel
theorem d_Me_isSought_8 : decode c_Me_isSought 8 = .ok (.aload_n 0, 1) := by decide +kernel
theorem d_Me_isSought_9 : decode c_Me_isSought 9 = .ok (.iload_n 1, 1) := by decide +kernel
theorem d_Me_isSought_10 : decode c_Me_isSought 10 = .ok (.iconst 1, 1) := by decide +kernel
theorem d_Me_isSought_11 : decode c_Me_isSought 11 = .ok (.iload_n 2, 1) := by decide +kernel
theorem d_Me_isSought_12 : decode c_Me_isSought 12 = .ok (.iadd, 1) := by decide +kernel
theorem d_Me_isSought_13 : decode c_Me_isSought 13 = .ok (.invokevirtual 41, 3) := by decide +kernel
theorem d_Me_isSought_16 : decode c_Me_isSought 16 = .ok (.i2l, 1) := by decide +kernel
theorem d_Me_isSought_17 : decode c_Me_isSought 17 = .ok (.aload_n 0, 1) := by decide +kernel
theorem d_Me_isSought_18 : decode c_Me_isSought 18 = .ok (.getfield 19, 3) := by decide +kernel
theorem d_Me_isSought_21 : decode c_Me_isSought 21 = .ok (.iload_n 2, 1) := by decide +kernel
theorem d_Me_isSought_22 : decode c_Me_isSought 22 = .ok (.invokevirtual 45, 3) := by decide +kernel
theorem d_Me_isSought_25 : decode c_Me_isSought 25 = .ok (.lcmp, 1) := by decide +kernel
theorem d_Me_isSought_26 : decode c_Me_isSought 26 = .ok (.ifCond .eq 5, 3) := by decide +kernel
theorem d_Me_isSought_29 : decode c_Me_isSought 29 = .ok (.iconst 0, 1) := by decide +kernel
theorem d_Me_isSought_30 : decode c_Me_isSought 30 = .ok (.ireturn, 1) := by decide +kernel
theorem d_Me_isSought_31 : decode c_Me_isSought 31 = .ok (.iinc 2 1, 3) := by decide +kernel
theorem d_Me_isSought_34 : decode c_Me_isSought 34 = .ok (.goto (-32), 3) := by decide +kernel
theorem d_Me_isSought_37 : decode c_Me_isSought 37 = .ok (.iconst 1, 1) := by decide +kernel
theorem d_Me_isSought_38 : decode c_Me_isSought 38 = .ok (.ireturn, 1) := by decide +kernel
set_option maxRecDepth 20000 in
theorem w_Me_isSought_2b {X : HX} {ad : Nat → Nat} {I : HI} {J : HJ} {N : HN} {r : Int32} {k2 : Int32 → Option (Int32)} {a0 : Nat} {p1 : Int32} {x2 : Int32} (C : Cx X c_Me_isSought RX4 3 (some .boolean) rm_Me_isSought) (ha0 : gk Tc nC a0 (0, 4))
    (hk2 : ∀ (x2 : Int32), k2 x2 = some r → G Tc X ad nC 0 0 I J N (gE X Tc ad nC (I, J, N, fun _ => some (.int r))) 2 3 [(0, .ref (ad a0)), (1, .int p1), (2, .int x2)] [])
    (h : Me_isSought_2b I J N a0 p1 k2 x2 = some r) : G Tc X ad nC 0 0 I J N (gE X Tc ad nC (I, J, N, fun _ => some (.int r))) 2 3 [(0, .ref (ad a0)), (1, .int p1), (2, .int x2)] [] := by
  refine g_iload_n (pc := 2) C d_Me_isSought_2 rfl 2 rfl ?_
  refine g_bipush (pc := 3) C (14 : Int32) d_Me_isSought_3 (by decide) ?_
  refine g_icmp_ge (pc := 5) C 37 d_Me_isSought_5 rfl (fun e1 => ?_) (fun e1 => ?_)
  · have h := o_pos e1 h
    refine g_iconst (pc := 37) C (1 : Int32) d_Me_isSought_37 (by decide) ?_
    obtain rfl := o_ret h
    exact g_zret (pc := 38) C zn_1 d_Me_isSought_38
  · have h := o_neg e1 h
    refine g_aload_n (pc := 8) C d_Me_isSought_8 rfl 0 rfl ?_
    refine g_iload_n (pc := 9) C d_Me_isSought_9 rfl 1 rfl ?_
    refine g_iconst (pc := 10) C (1 : Int32) d_Me_isSought_10 (by decide) ?_
    refine g_iload_n (pc := 11) C d_Me_isSought_11 rfl 2 rfl ?_
    refine g_iadd (pc := 12) C d_Me_isSought_12 ?_
    obtain ⟨r2, hc3, h⟩ := o_bn1 h
    refine g_V (pc := 13) (rest := []) C (k_Me_item (xl X) ha0 hc3) sm_Me_item ml_Me_41 im_Me_item se_Me_item gcX4 rfl ha0 ⟨rfl, rfl, Nat.le_of_ble_eq_true rfl, Nat.le_of_ble_eq_true rfl⟩ ⟨Nat.zero_le _, Nat.zero_le _⟩ rfl rfl (Nat.le_of_ble_eq_true rfl) d_Me_isSought_13 [.int r2] rfl ?_
    refine g_i2l (pc := 16) C d_Me_isSought_16 ?_
    refine g_aload_n (pc := 17) C d_Me_isSought_17 rfl 0 rfl ?_
    obtain ⟨b4, hnb4, hb4, h⟩ := o_rq h
    refine g_get (pc := 18) (k := 1) (v := va_rf ((N a0 1).map ad)) C gcX4 inX4 (by decide) fl_Me_19 ha0 rfl d_Me_isSought_18 ?_
    refine g_top (g_rf hnb4) ?_
    refine g_iload_n (pc := 21) C d_Me_isSought_21 rfl 2 rfl ?_
    obtain ⟨r5, hc6, h⟩ := o_bn1 h
    refine g_V (pc := 22) (rest := [.long r2.toInt64]) C (k_Pa_number (xl X) hb4 hc6) sm_Pa_number ml_Me_45 im_Pa_number se_Pa_number gcX5 rfl hb4 ⟨rfl, rfl, Nat.le_of_ble_eq_true rfl, Nat.le_of_ble_eq_true rfl⟩ ⟨Nat.zero_le _, Nat.zero_le _⟩ rfl rfl (Nat.le_of_ble_eq_true rfl) d_Me_isSought_22 [.long r5, .long r2.toInt64] rfl ?_
    refine g_lcmp_eq (pc := 25) C 31 d_Me_isSought_25 d_Me_isSought_26 rfl (fun e7 => ?_) (fun e7 => ?_)
    · have h := o_pos e7 h
      refine g_iinc (pc := 31) (q := 2) (lv' := [(2, .int (x2 + 1)), (0, .ref (ad a0)), (1, .int p1)]) C d_Me_isSought_31 rfl rfl (by decide) rfl ?_
      refine g_goto (pc := 34) C 2 d_Me_isSought_34 rfl ?_
      refine g_lv [1, 2, 0] rfl ?_
      exact hk2 _ h
    · have h := o_neg e7 h
      refine g_iconst (pc := 29) C (0 : Int32) d_Me_isSought_29 (by decide) ?_
      obtain rfl := o_ret h
      exact g_zret (pc := 30) C zn_0 d_Me_isSought_30
set_option maxRecDepth 20000 in
theorem w_Me_isSought_2 {X : HX} {ad : Nat → Nat} {I : HI} {J : HJ} {N : HN} {r : Int32} {a0 : Nat} {p1 : Int32} (C : Cx X c_Me_isSought RX4 3 (some .boolean) rm_Me_isSought) (ha0 : gk Tc nC a0 (0, 4)) : ∀ (n : Nat) (x2 : Int32), Me_isSought_2 I J N a0 p1 n x2 = some r → G Tc X ad nC 0 0 I J N (gE X Tc ad nC (I, J, N, fun _ => some (.int r))) 2 3 [(0, .ref (ad a0)), (1, .int p1), (2, .int x2)] [] := by
  intro n
  induction n with
  | zero => intro x2 h; cases h
  | succ n ih => intro x2 h; exact w_Me_isSought_2b C ha0 ih h
set_option maxRecDepth 20000 in
theorem w_Me_isSought_0 {X : HX} {ad : Nat → Nat} {I : HI} {J : HJ} {N : HN} {r : Int32} {a0 : Nat} {p1 : Int32} (C : Cx X c_Me_isSought RX4 3 (some .boolean) rm_Me_isSought) (ha0 : gk Tc nC a0 (0, 4))
    (h : Me_isSought_0 I J N a0 p1 = some r) : G Tc X ad nC 0 0 I J N (gE X Tc ad nC (I, J, N, fun _ => some (.int r))) 0 3 [(0, .ref (ad a0)), (1, .int p1)] [] := by
  refine g_iconst (pc := 0) C (0 : Int32) d_Me_isSought_0 (by decide) ?_
  refine g_istore_n (pc := 1) (lv' := [(2, .int (0 : Int32)), (0, .ref (ad a0)), (1, .int p1)]) C d_Me_isSought_1 rfl (by decide) rfl ?_
  refine g_lv [1, 2, 0] rfl ?_
  exact w_Me_isSought_2 C ha0 _ _ h
set_option maxRecDepth 20000 in
theorem k_Me_isSought (l : Launch) {I : HI} {J : HJ} {N : HN} {a0 : Nat} {p1 : Int32} {r : Int32} (ha0 : gk Tc nC a0 (0, 4)) (h : Me_isSought I J N a0 p1 = some r) : gM l y_Me_isSought c_Me_isSought 3 (some .boolean) rm_Me_isSought Tc nC I J N (fun ad => [.ref (ad a0), .int p1]) (I, J, N, fun _ => some (.int r)) :=
  g_meth (lv := fun ad => [(0, .ref (ad a0)), (1, .int p1)]) (by decide) (fun _ => Nat.le_of_ble_eq_true rfl) (fun _ => rfl) (fun X ad C => g_lv [0, 1] rfl (w_Me_isSought_0 C ha0 h))
theorem d_Me_numberOf_0 : decode c_Me_numberOf 0 = .ok (.aload_n 0, 1) := by decide +kernel
theorem d_Me_numberOf_1 : decode c_Me_numberOf 1 = .ok (.getfield 19, 3) := by decide +kernel
theorem d_Me_numberOf_4 : decode c_Me_numberOf 4 = .ok (.aload_n 1, 1) := by decide +kernel
theorem d_Me_numberOf_5 : decode c_Me_numberOf 5 = .ok (.invokevirtual 31, 3) := by decide +kernel
theorem d_Me_numberOf_8 : decode c_Me_numberOf 8 = .ok (.aload_n 0, 1) := by decide +kernel
theorem d_Me_numberOf_9 : decode c_Me_numberOf 9 = .ok (.getfield 19, 3) := by decide +kernel
theorem d_Me_numberOf_12 : decode c_Me_numberOf 12 = .ok (.invokevirtual 35, 3) := by decide +kernel
theorem d_Me_numberOf_15 : decode c_Me_numberOf 15 = .ok (.iconst 0, 1) := by decide +kernel
theorem d_Me_numberOf_16 : decode c_Me_numberOf 16 = .ok (.istore_n 2, 1) := by decide +kernel
theorem d_Me_numberOf_17 : decode c_Me_numberOf 17 = .ok (.iload_n 2, 1) := by decide +kernel
theorem d_Me_numberOf_18 : decode c_Me_numberOf 18 = .ok (.aload_n 0, 1) := by decide +kernel
theorem d_Me_numberOf_19 : decode c_Me_numberOf 19 = .ok (.getfield 23, 3) := by decide +kernel
theorem d_Me_numberOf_22 : decode c_Me_numberOf 22 = .ok (.if_icmp .ge 19, 3) := by decide +kernel
theorem d_Me_numberOf_25 : decode c_Me_numberOf 25 = .ok (.aload_n 0, 1) := by decide +kernel
theorem d_Me_numberOf_26 : decode c_Me_numberOf 26 = .ok (.iload_n 2, 1) := by decide +kernel
theorem d_Me_numberOf_27 : decode c_Me_numberOf 27 = .ok (.invokevirtual 38, 3) := by decide +kernel
theorem d_Me_numberOf_30 : decode c_Me_numberOf 30 = .ok (.ifCond .eq 5, 3) := by decide +kernel
theorem d_Me_numberOf_33 : decode c_Me_numberOf 33 = .ok (.iload_n 2, 1) := by decide +kernel
theorem d_Me_numberOf_34 : decode c_Me_numberOf 34 = .ok (.ireturn, 1) := by decide +kernel
theorem d_Me_numberOf_35 : decode c_Me_numberOf 35 = .ok (.iinc 2 1, 3) := by decide +kernel
theorem d_Me_numberOf_38 : decode c_Me_numberOf 38 = .ok (.goto (-21), 3) := by decide +kernel
theorem d_Me_numberOf_41 : decode c_Me_numberOf 41 = .ok (.iconst (-1), 1) := by decide +kernel
theorem d_Me_numberOf_42 : decode c_Me_numberOf 42 = .ok (.ireturn, 1) := by decide +kernel
set_option maxRecDepth 20000 in
theorem w_Me_numberOf_17b {X : HX} {ad : Nat → Nat} {I : HI} {J : HJ} {N : HN} {r : HJ × Int32} {k17 : HJ → Int32 → Option (HJ × Int32)} {a0 : Nat} {a1 : Nat} {x2 : Int32} (C : Cx X c_Me_numberOf RX4 3 (some .int) rm_Me_numberOf) (ha0 : gk Tc nC a0 (0, 4)) (ha1 : gk Tc nC a1 (0, 5))
    (hk17 : ∀ (J : HJ) (x2 : Int32), k17 J x2 = some r → G Tc X ad nC 0 0 I J N (gE X Tc ad nC (I, r.1, N, fun _ => some (.int r.2))) 17 3 [(0, .ref (ad a0)), (2, .int x2)] [])
    (h : Me_numberOf_17b I N a0 a1 k17 J x2 = some r) : G Tc X ad nC 0 0 I J N (gE X Tc ad nC (I, r.1, N, fun _ => some (.int r.2))) 17 3 [(0, .ref (ad a0)), (2, .int x2)] [] := by
  refine g_iload_n (pc := 17) C d_Me_numberOf_17 rfl 1 rfl ?_
  refine g_aload_n (pc := 18) C d_Me_numberOf_18 rfl 0 rfl ?_
  refine g_get (pc := 19) (k := 2) (v := .int (I a0 2)) C gcX4 inX4 (by decide) fl_Me_23 ha0 rfl d_Me_numberOf_19 ?_
  refine g_icmp_ge (pc := 22) C 41 d_Me_numberOf_22 rfl (fun e1 => ?_) (fun e1 => ?_)
  · have h := o_pos e1 h
    refine g_iconst (pc := 41) C (-1 : Int32) d_Me_numberOf_41 (by decide) ?_
    obtain rfl := o_ret h
    exact g_iret (pc := 42) C d_Me_numberOf_42
  · have h := o_neg e1 h
    refine g_aload_n (pc := 25) C d_Me_numberOf_25 rfl 0 rfl ?_
    refine g_iload_n (pc := 26) C d_Me_numberOf_26 rfl 1 rfl ?_
    obtain ⟨r2, hc3, h⟩ := o_bn1 h
    refine g_V (pc := 27) (rest := []) C (k_Me_isSought (xl X) ha0 hc3) sm_Me_isSought ml_Me_38 im_Me_isSought se_Me_isSought gcX4 rfl ha0 ⟨rfl, rfl, Nat.le_of_ble_eq_true rfl, Nat.le_of_ble_eq_true rfl⟩ ⟨Nat.zero_le _, Nat.zero_le _⟩ rfl rfl (Nat.le_of_ble_eq_true rfl) d_Me_numberOf_27 [.int r2] rfl ?_
    refine g_if_eq (pc := 30) C 35 d_Me_numberOf_30 rfl (fun e4 => ?_) (fun e4 => ?_)
    · have h := o_pos e4 h
      refine g_iinc (pc := 35) (q := 1) (lv' := [(2, .int (x2 + 1)), (0, .ref (ad a0))]) C d_Me_numberOf_35 rfl rfl (by decide) rfl ?_
      refine g_goto (pc := 38) C 17 d_Me_numberOf_38 rfl ?_
      refine g_lv [1, 0] rfl ?_
      exact hk17 _ _ h
    · have h := o_neg e4 h
      refine g_iload_n (pc := 33) C d_Me_numberOf_33 rfl 1 rfl ?_
      obtain rfl := o_ret h
      exact g_iret (pc := 34) C d_Me_numberOf_34
set_option maxRecDepth 20000 in
theorem w_Me_numberOf_17 {X : HX} {ad : Nat → Nat} {I : HI} {N : HN} {r : HJ × Int32} {a0 : Nat} {a1 : Nat} (C : Cx X c_Me_numberOf RX4 3 (some .int) rm_Me_numberOf) (ha0 : gk Tc nC a0 (0, 4)) (ha1 : gk Tc nC a1 (0, 5)) : ∀ (n : Nat) (J : HJ) (x2 : Int32), Me_numberOf_17 I N a0 a1 n J x2 = some r → G Tc X ad nC 0 0 I J N (gE X Tc ad nC (I, r.1, N, fun _ => some (.int r.2))) 17 3 [(0, .ref (ad a0)), (2, .int x2)] [] := by
  intro n
  induction n with
  | zero => intro J x2 h; cases h
  | succ n ih => intro J x2 h; exact w_Me_numberOf_17b C ha0 ha1 ih h
set_option maxRecDepth 20000 in
theorem w_Me_numberOf_0 {X : HX} {ad : Nat → Nat} {I : HI} {J : HJ} {N : HN} {r : HJ × Int32} {a0 : Nat} {a1 : Nat} (C : Cx X c_Me_numberOf RX4 3 (some .int) rm_Me_numberOf) (ha0 : gk Tc nC a0 (0, 4)) (ha1 : gk Tc nC a1 (0, 5))
    (h : Me_numberOf_0 I N a0 a1 J = some r) : G Tc X ad nC 0 0 I J N (gE X Tc ad nC (I, r.1, N, fun _ => some (.int r.2))) 0 3 [(0, .ref (ad a0)), (1, .ref (ad a1))] [] := by
  refine g_aload_n (pc := 0) C d_Me_numberOf_0 rfl 0 rfl ?_
  obtain ⟨b1, hnb1, hb1, h⟩ := o_rq h
  refine g_get (pc := 1) (k := 1) (v := va_rf ((N a0 1).map ad)) C gcX4 inX4 (by decide) fl_Me_19 ha0 rfl d_Me_numberOf_1 ?_
  refine g_top (g_rf hnb1) ?_
  refine g_aload_n (pc := 4) C d_Me_numberOf_4 rfl 1 rfl ?_
  obtain ⟨J2, hc3, h⟩ := o_bn1 h
  refine g_V (pc := 5) (rest := []) C (k_Pa_load (xl X) hb1 ha1 hc3) sm_Pa_load ml_Me_31 im_Pa_load se_Pa_load gcX5 rfl hb1 ⟨rfl, rfl, Nat.le_of_ble_eq_true rfl, Nat.le_of_ble_eq_true rfl⟩ ⟨Nat.zero_le _, Nat.zero_le _⟩ rfl rfl (Nat.le_of_ble_eq_true rfl) d_Me_numberOf_5 [] rfl ?_
  refine g_aload_n (pc := 8) C d_Me_numberOf_8 rfl 0 rfl ?_
  obtain ⟨b4, hnb4, hb4, h⟩ := o_rq h
  refine g_get (pc := 9) (k := 1) (v := va_rf ((N a0 1).map ad)) C gcX4 inX4 (by decide) fl_Me_19 ha0 rfl d_Me_numberOf_9 ?_
  refine g_top (g_rf hnb4) ?_
  obtain ⟨J5, hc6, h⟩ := o_bn1 h
  refine g_V (pc := 12) (rest := []) C (k_Pa_becomeAsPair (xl X) hb4 hc6) sm_Pa_becomeAsPair ml_Me_35 im_Pa_becomeAsPair se_Pa_becomeAsPair gcX5 rfl hb4 ⟨rfl, rfl, Nat.le_of_ble_eq_true rfl, Nat.le_of_ble_eq_true rfl⟩ ⟨Nat.zero_le _, Nat.zero_le _⟩ rfl rfl (Nat.le_of_ble_eq_true rfl) d_Me_numberOf_12 [] rfl ?_
  refine g_iconst (pc := 15) C (0 : Int32) d_Me_numberOf_15 (by decide) ?_
  refine g_istore_n (pc := 16) (lv' := [(2, .int (0 : Int32)), (0, .ref (ad a0)), (1, .ref (ad a1))]) C d_Me_numberOf_16 rfl (by decide) rfl ?_
  refine g_lv [1, 0] rfl ?_
  exact w_Me_numberOf_17 C ha0 ha1 _ _ _ h
set_option maxRecDepth 20000 in
theorem k_Me_numberOf (l : Launch) {I : HI} {J : HJ} {N : HN} {a0 : Nat} {a1 : Nat} {r : HJ × Int32} (ha0 : gk Tc nC a0 (0, 4)) (ha1 : gk Tc nC a1 (0, 5)) (h : Me_numberOf I N a0 a1 J = some r) : gM l y_Me_numberOf c_Me_numberOf 3 (some .int) rm_Me_numberOf Tc nC I J N (fun ad => [.ref (ad a0), .ref (ad a1)]) (I, r.1, N, fun _ => some (.int r.2)) :=
  g_meth (lv := fun ad => [(0, .ref (ad a0)), (1, .ref (ad a1))]) (by decide) (fun _ => Nat.le_of_ble_eq_true rfl) (fun _ => rfl) (fun X ad C => g_lv [0, 1] rfl (w_Me_numberOf_0 C ha0 ha1 h))
theorem d_Me_keepOnce_0 : decode c_Me_keepOnce 0 = .ok (.aload_n 0, 1) := by decide +kernel
theorem d_Me_keepOnce_1 : decode c_Me_keepOnce 1 = .ok (.aload_n 1, 1) := by decide +kernel
theorem d_Me_keepOnce_2 : decode c_Me_keepOnce 2 = .ok (.invokevirtual 49, 3) := by decide +kernel
theorem d_Me_keepOnce_5 : decode c_Me_keepOnce 5 = .ok (.istore_n 2, 1) := by decide +kernel
theorem d_Me_keepOnce_6 : decode c_Me_keepOnce 6 = .ok (.iload_n 2, 1) := by decide +kernel
theorem d_Me_keepOnce_7 : decode c_Me_keepOnce 7 = .ok (.iconst (-1), 1) := by decide +kernel
theorem d_Me_keepOnce_8 : decode c_Me_keepOnce 8 = .ok (.if_icmp .ne 72, 3) := by decide +kernel
theorem d_Me_keepOnce_11 : decode c_Me_keepOnce 11 = .ok (.aload_n 0, 1) := by decide +kernel
theorem d_Me_keepOnce_12 : decode c_Me_keepOnce 12 = .ok (.getfield 23, 3) := by decide +kernel
theorem d_Me_keepOnce_15 : decode c_Me_keepOnce 15 = .ok (.bipush 12, 2) := by decide +kernel
theorem d_Me_keepOnce_17 : decode c_Me_keepOnce 17 = .ok (.if_icmp .lt 6, 3) := by decide +kernel
theorem d_Me_keepOnce_20 : decode c_Me_keepOnce 20 = .ok (.bipush (-4), 2) := by decide +kernel
theorem d_Me_keepOnce_22 : decode c_Me_keepOnce 22 = .ok (.ireturn, 1) := by decide +kernel
theorem d_Me_keepOnce_23 : decode c_Me_keepOnce 23 = .ok (.aload_n 0, 1) := by decide +kernel
theorem d_Me_keepOnce_24 : decode c_Me_keepOnce 24 = .ok (.getfield 23, 3) := by decide +kernel
theorem d_Me_keepOnce_27 : decode c_Me_keepOnce 27 = .ok (.istore_n 2, 1) := by decide +kernel
theorem d_Me_keepOnce_28 : decode c_Me_keepOnce 28 = .ok (.aload_n 0, 1) := by decide +kernel
theorem d_Me_keepOnce_29 : decode c_Me_keepOnce 29 = .ok (.getfield 11, 3) := by decide +kernel
theorem d_Me_keepOnce_32 : decode c_Me_keepOnce 32 = .ok (.iload_n 2, 1) := by decide +kernel
theorem d_Me_keepOnce_33 : decode c_Me_keepOnce 33 = .ok (.aaload, 1) := by decide +kernel
theorem d_Me_keepOnce_34 : decode c_Me_keepOnce 34 = .ok (.iconst 0, 1) := by decide +kernel
theorem d_Me_keepOnce_35 : decode c_Me_keepOnce 35 = .ok (.iconst 0, 1) := by decide +kernel
theorem d_Me_keepOnce_36 : decode c_Me_keepOnce 36 = .ok (.iastore, 1) := by decide +kernel
theorem d_Me_keepOnce_37 : decode c_Me_keepOnce 37 = .ok (.iconst 0, 1) := by decide +kernel
theorem d_Me_keepOnce_38 : decode c_Me_keepOnce 38 = .ok (.istore_n 3, 1) := by decide +kernel
theorem d_Me_keepOnce_39 : decode c_Me_keepOnce 39 = .ok (.iload_n 3, 1) := by decide +kernel
theorem d_Me_keepOnce_40 : decode c_Me_keepOnce 40 = .ok (.bipush 14, 2) := by decide +kernel
theorem d_Me_keepOnce_42 : decode c_Me_keepOnce 42 = .ok (.if_icmp .ge 28, 3) := by decide +kernel
theorem d_Me_keepOnce_45 : decode c_Me_keepOnce 45 = .ok (.aload_n 0, 1) := by decide +kernel
theorem d_Me_keepOnce_46 : decode c_Me_keepOnce 46 = .ok (.getfield 11, 3) := by decide +kernel
theorem d_Me_keepOnce_49 : decode c_Me_keepOnce 49 = .ok (.iload_n 2, 1) := by decide +kernel
theorem d_Me_keepOnce_50 : decode c_Me_keepOnce 50 = .ok (.aaload, 1) := by decide +kernel
theorem d_Me_keepOnce_51 : decode c_Me_keepOnce 51 = .ok (.iconst 1, 1) := by decide +kernel
theorem d_Me_keepOnce_52 : decode c_Me_keepOnce 52 = .ok (.iload_n 3, 1) := by decide +kernel
theorem d_Me_keepOnce_53 : decode c_Me_keepOnce 53 = .ok (.iadd, 1) := by decide +kernel
theorem d_Me_keepOnce_54 : decode c_Me_keepOnce 54 = .ok (.aload_n 0, 1) := by decide +kernel
theorem d_Me_keepOnce_55 : decode c_Me_keepOnce 55 = .ok (.getfield 19, 3) := by decide +kernel
theorem d_Me_keepOnce_58 : decode c_Me_keepOnce 58 = .ok (.iload_n 3, 1) := by decide +kernel
theorem d_Me_keepOnce_59 : decode c_Me_keepOnce 59 = .ok (.invokevirtual 45, 3) := by decide +kernel
theorem d_Me_keepOnce_62 : decode c_Me_keepOnce 62 = .ok (.l2i, 1) := by decide +kernel
theorem d_Me_keepOnce_63 : decode c_Me_keepOnce 63 = .ok (.iastore, 1) := by decide +kernel
theorem d_Me_keepOnce_64 : decode c_Me_keepOnce 64 = .ok (.iinc 3 1, 3) := by decide +kernel
theorem d_Me_keepOnce_67 : decode c_Me_keepOnce 67 = .ok (.goto (-28), 3) := by decide +kernel
theorem d_Me_keepOnce_70 : decode c_Me_keepOnce 70 = .ok (.aload_n 0, 1) := by decide +kernel
theorem d_Me_keepOnce_71 : decode c_Me_keepOnce 71 = .ok (.dup, 1) := by decide +kernel
theorem d_Me_keepOnce_72 : decode c_Me_keepOnce 72 = .ok (.getfield 23, 3) := by decide +kernel
theorem d_Me_keepOnce_75 : decode c_Me_keepOnce 75 = .ok (.iconst 1, 1) := by decide +kernel
theorem d_Me_keepOnce_76 : decode c_Me_keepOnce 76 = .ok (.iadd, 1) := by decide +kernel
theorem d_Me_keepOnce_77 : decode c_Me_keepOnce 77 = .ok (.putfield 23, 3) := by decide +kernel
theorem d_Me_keepOnce_80 : decode c_Me_keepOnce 80 = .ok (.iload_n 2, 1) := by decide +kernel
theorem d_Me_keepOnce_81 : decode c_Me_keepOnce 81 = .ok (.ifCond .lt 21, 3) := by decide +kernel
theorem d_Me_keepOnce_84 : decode c_Me_keepOnce 84 = .ok (.iload_n 2, 1) := by decide +kernel
theorem d_Me_keepOnce_85 : decode c_Me_keepOnce 85 = .ok (.bipush 12, 2) := by decide +kernel
theorem d_Me_keepOnce_87 : decode c_Me_keepOnce 87 = .ok (.if_icmp .ge 15, 3) := by decide +kernel
theorem d_Me_keepOnce_90 : decode c_Me_keepOnce 90 = .ok (.aload_n 0, 1) := by decide +kernel
theorem d_Me_keepOnce_91 : decode c_Me_keepOnce 91 = .ok (.getfield 11, 3) := by decide +kernel
theorem d_Me_keepOnce_94 : decode c_Me_keepOnce 94 = .ok (.iload_n 2, 1) := by decide +kernel
theorem d_Me_keepOnce_95 : decode c_Me_keepOnce 95 = .ok (.aaload, 1) := by decide +kernel
theorem d_Me_keepOnce_96 : decode c_Me_keepOnce 96 = .ok (.iconst 0, 1) := by decide +kernel
theorem d_Me_keepOnce_97 : decode c_Me_keepOnce 97 = .ok (.dup2, 1) := by decide +kernel
theorem d_Me_keepOnce_98 : decode c_Me_keepOnce 98 = .ok (.iaload, 1) := by decide +kernel
theorem d_Me_keepOnce_99 : decode c_Me_keepOnce 99 = .ok (.iconst 1, 1) := by decide +kernel
theorem d_Me_keepOnce_100 : decode c_Me_keepOnce 100 = .ok (.iadd, 1) := by decide +kernel
theorem d_Me_keepOnce_101 : decode c_Me_keepOnce 101 = .ok (.iastore, 1) := by decide +kernel
theorem d_Me_keepOnce_102 : decode c_Me_keepOnce 102 = .ok (.iload_n 2, 1) := by decide +kernel
theorem d_Me_keepOnce_103 : decode c_Me_keepOnce 103 = .ok (.ireturn, 1) := by decide +kernel
set_option maxRecDepth 20000 in
theorem w_Me_keepOnce_80 {X : HX} {ad : Nat → Nat} {I : HI} {J : HJ} {N : HN} {r : HI × HJ × Int32} {a0 : Nat} {a1 : Nat} {x2 : Int32} (C : Cx X c_Me_keepOnce RX4 4 (some .int) rm_Me_keepOnce) (ha0 : gk Tc nC a0 (0, 4)) (ha1 : gk Tc nC a1 (0, 5))
    (h : Me_keepOnce_80 N a0 a1 I J x2 = some r) : G Tc X ad nC 0 0 I J N (gE X Tc ad nC (r.1, r.2.1, N, fun _ => some (.int r.2.2))) 80 4 [(0, .ref (ad a0)), (2, .int x2)] [] := by
  refine g_iload_n (pc := 80) C d_Me_keepOnce_80 rfl 1 rfl ?_
  refine g_if_lt (pc := 81) C 102 d_Me_keepOnce_81 rfl (fun e1 => ?_) (fun e1 => ?_)
  · have h := o_pos e1 h
    refine g_iload_n (pc := 102) C d_Me_keepOnce_102 rfl 1 rfl ?_
    obtain rfl := o_ret h
    exact g_iret (pc := 103) C d_Me_keepOnce_103
  · have h := o_neg e1 h
    refine g_iload_n (pc := 84) C d_Me_keepOnce_84 rfl 1 rfl ?_
    refine g_bipush (pc := 85) C (12 : Int32) d_Me_keepOnce_85 (by decide) ?_
    refine g_icmp_ge (pc := 87) C 102 d_Me_keepOnce_87 rfl (fun e2 => ?_) (fun e2 => ?_)
    · have h := o_pos e2 h
      refine g_iload_n (pc := 102) C d_Me_keepOnce_102 rfl 1 rfl ?_
      obtain rfl := o_ret h
      exact g_iret (pc := 103) C d_Me_keepOnce_103
    · have h := o_neg e2 h
      refine g_aload_n (pc := 90) C d_Me_keepOnce_90 rfl 0 rfl ?_
      obtain ⟨b3, hnb3, hb3, h⟩ := o_ra h
      refine g_get (pc := 91) (k := 0) (v := va_rf ((N a0 0).map ad)) C gcX4 inX4 (by decide) fl_Me_11 ha0 rfl d_Me_keepOnce_91 ?_
      refine g_top (g_rf hnb3) ?_
      refine g_iload_n (pc := 94) C d_Me_keepOnce_94 rfl 1 rfl ?_
      obtain ⟨hi4, h⟩ := o_gd h
      obtain ⟨b5, hnb5, hb5, h⟩ := o_ra h
      refine g_aald (pc := 95) 3 2 C hb3 (Or.inl ⟨rfl, rfl, rfl⟩) hi4 hnb5 d_Me_keepOnce_95 ?_
      refine g_iconst (pc := 96) C (0 : Int32) d_Me_keepOnce_96 (by decide) ?_
      refine g_dup2 (pc := 97) C d_Me_keepOnce_97 rfl rfl ?_
      obtain ⟨hi6, h⟩ := o_gd h
      refine g_iald (pc := 98) C hb5 hi6 d_Me_keepOnce_98 ?_
      refine g_iconst (pc := 99) C (1 : Int32) d_Me_keepOnce_99 (by decide) ?_
      refine g_iadd (pc := 100) C d_Me_keepOnce_100 ?_
      obtain ⟨hi7, h⟩ := o_gd h
      refine g_iast (pc := 101) C hb5 hi7 d_Me_keepOnce_101 ?_
      obtain ⟨I8, eI8, h⟩ := o_bd h
      rw [← eI8]
      refine g_iload_n (pc := 102) C d_Me_keepOnce_102 rfl 1 rfl ?_
      obtain rfl := o_ret h
      exact g_iret (pc := 103) C d_Me_keepOnce_103
set_option maxRecDepth 20000 in
theorem w_Me_keepOnce_39b {X : HX} {ad : Nat → Nat} {I : HI} {J : HJ} {N : HN} {r : HI × HJ × Int32} {k39 : HI → HJ → Int32 → Int32 → Option (HI × HJ × Int32)} {a0 : Nat} {a1 : Nat} {x2 : Int32} {x3 : Int32} (C : Cx X c_Me_keepOnce RX4 4 (some .int) rm_Me_keepOnce) (ha0 : gk Tc nC a0 (0, 4)) (ha1 : gk Tc nC a1 (0, 5))
    (hk39 : ∀ (I : HI) (J : HJ) (x2 : Int32) (x3 : Int32), k39 I J x2 x3 = some r → G Tc X ad nC 0 0 I J N (gE X Tc ad nC (r.1, r.2.1, N, fun _ => some (.int r.2.2))) 39 4 [(0, .ref (ad a0)), (2, .int x2), (3, .int x3)] [])
    (h : Me_keepOnce_39b N a0 a1 k39 I J x2 x3 = some r) : G Tc X ad nC 0 0 I J N (gE X Tc ad nC (r.1, r.2.1, N, fun _ => some (.int r.2.2))) 39 4 [(0, .ref (ad a0)), (2, .int x2), (3, .int x3)] [] := by
  refine g_iload_n (pc := 39) C d_Me_keepOnce_39 rfl 2 rfl ?_
  refine g_bipush (pc := 40) C (14 : Int32) d_Me_keepOnce_40 (by decide) ?_
  refine g_icmp_ge (pc := 42) C 70 d_Me_keepOnce_42 rfl (fun e1 => ?_) (fun e1 => ?_)
  · have h := o_pos e1 h
    refine g_aload_n (pc := 70) C d_Me_keepOnce_70 rfl 0 rfl ?_
    refine g_dup (pc := 71) C d_Me_keepOnce_71 rfl ?_
    refine g_get (pc := 72) (k := 2) (v := .int (I a0 2)) C gcX4 inX4 (by decide) fl_Me_23 ha0 rfl d_Me_keepOnce_72 ?_
    refine g_iconst (pc := 75) C (1 : Int32) d_Me_keepOnce_75 (by decide) ?_
    refine g_iadd (pc := 76) C d_Me_keepOnce_76 ?_
    refine g_put (pc := 77) (I' := up2 I a0 2 ((I a0 2) + (1 : Int32))) (J' := J) (N' := N) (k := 2) C gcX4 inX4 tyX4_ok nmX4 (by decide) fl_Me_23 rfl ha0 (tyX4_ok 2 (by decide)) rfl rfl (Nat.le_of_ble_eq_true rfl) gs_4_2 (fun b hb => up2_of hb) (fun _ _ => rfl) (fun _ _ => rfl) d_Me_keepOnce_77 ?_
    obtain ⟨I2, eI2, h⟩ := o_bd h
    rw [← eI2]
    refine g_lv [0, 1] rfl ?_
    exact w_Me_keepOnce_80 C ha0 ha1 h
  · have h := o_neg e1 h
    refine g_aload_n (pc := 45) C d_Me_keepOnce_45 rfl 0 rfl ?_
    obtain ⟨b3, hnb3, hb3, h⟩ := o_ra h
    refine g_get (pc := 46) (k := 0) (v := va_rf ((N a0 0).map ad)) C gcX4 inX4 (by decide) fl_Me_11 ha0 rfl d_Me_keepOnce_46 ?_
    refine g_top (g_rf hnb3) ?_
    refine g_iload_n (pc := 49) C d_Me_keepOnce_49 rfl 1 rfl ?_
    obtain ⟨hi4, h⟩ := o_gd h
    obtain ⟨b5, hnb5, hb5, h⟩ := o_ra h
    refine g_aald (pc := 50) 3 2 C hb3 (Or.inl ⟨rfl, rfl, rfl⟩) hi4 hnb5 d_Me_keepOnce_50 ?_
    refine g_iconst (pc := 51) C (1 : Int32) d_Me_keepOnce_51 (by decide) ?_
    refine g_iload_n (pc := 52) C d_Me_keepOnce_52 rfl 2 rfl ?_
    refine g_iadd (pc := 53) C d_Me_keepOnce_53 ?_
    refine g_aload_n (pc := 54) C d_Me_keepOnce_54 rfl 0 rfl ?_
    obtain ⟨b6, hnb6, hb6, h⟩ := o_rq h
    refine g_get (pc := 55) (k := 1) (v := va_rf ((N a0 1).map ad)) C gcX4 inX4 (by decide) fl_Me_19 ha0 rfl d_Me_keepOnce_55 ?_
    refine g_top (g_rf hnb6) ?_
    refine g_iload_n (pc := 58) C d_Me_keepOnce_58 rfl 2 rfl ?_
    obtain ⟨r7, hc8, h⟩ := o_bn1 h
    refine g_V (pc := 59) (rest := [.int ((1 : Int32) + x3), .ref (ad b5)]) C (k_Pa_number (xl X) hb6 hc8) sm_Pa_number ml_Me_45 im_Pa_number se_Pa_number gcX5 rfl hb6 ⟨rfl, rfl, Nat.le_of_ble_eq_true rfl, Nat.le_of_ble_eq_true rfl⟩ ⟨Nat.zero_le _, Nat.zero_le _⟩ rfl rfl (Nat.le_of_ble_eq_true rfl) d_Me_keepOnce_59 [.long r7, .int ((1 : Int32) + x3), .ref (ad b5)] rfl ?_
    refine g_l2i (pc := 62) C d_Me_keepOnce_62 ?_
    obtain ⟨hi9, h⟩ := o_gd h
    refine g_iast (pc := 63) C hb5 hi9 d_Me_keepOnce_63 ?_
    obtain ⟨I10, eI10, h⟩ := o_bd h
    rw [← eI10]
    refine g_iinc (pc := 64) (q := 2) (lv' := [(3, .int (x3 + 1)), (0, .ref (ad a0)), (2, .int x2)]) C d_Me_keepOnce_64 rfl rfl (by decide) rfl ?_
    refine g_goto (pc := 67) C 39 d_Me_keepOnce_67 rfl ?_
    refine g_lv [1, 2, 0] rfl ?_
    exact hk39 _ _ _ _ h
set_option maxRecDepth 20000 in
theorem w_Me_keepOnce_39 {X : HX} {ad : Nat → Nat} {N : HN} {r : HI × HJ × Int32} {a0 : Nat} {a1 : Nat} (C : Cx X c_Me_keepOnce RX4 4 (some .int) rm_Me_keepOnce) (ha0 : gk Tc nC a0 (0, 4)) (ha1 : gk Tc nC a1 (0, 5)) : ∀ (n : Nat) (I : HI) (J : HJ) (x2 : Int32) (x3 : Int32), Me_keepOnce_39 N a0 a1 n I J x2 x3 = some r → G Tc X ad nC 0 0 I J N (gE X Tc ad nC (r.1, r.2.1, N, fun _ => some (.int r.2.2))) 39 4 [(0, .ref (ad a0)), (2, .int x2), (3, .int x3)] [] := by
  intro n
  induction n with
  | zero => intro I J x2 x3 h; cases h
  | succ n ih => intro I J x2 x3 h; exact w_Me_keepOnce_39b C ha0 ha1 ih h
set_option maxRecDepth 20000 in
theorem w_Me_keepOnce_0 {X : HX} {ad : Nat → Nat} {I : HI} {J : HJ} {N : HN} {r : HI × HJ × Int32} {a0 : Nat} {a1 : Nat} (C : Cx X c_Me_keepOnce RX4 4 (some .int) rm_Me_keepOnce) (ha0 : gk Tc nC a0 (0, 4)) (ha1 : gk Tc nC a1 (0, 5))
    (h : Me_keepOnce_0 N a0 a1 I J = some r) : G Tc X ad nC 0 0 I J N (gE X Tc ad nC (r.1, r.2.1, N, fun _ => some (.int r.2.2))) 0 4 [(0, .ref (ad a0)), (1, .ref (ad a1))] [] := by
  refine g_aload_n (pc := 0) C d_Me_keepOnce_0 rfl 0 rfl ?_
  refine g_aload_n (pc := 1) C d_Me_keepOnce_1 rfl 1 rfl ?_
  obtain ⟨J1, r2, hc3, h⟩ := o_bn2 h
  refine g_V (pc := 2) (rest := []) C (k_Me_numberOf (xl X) ha0 ha1 hc3) sm_Me_numberOf ml_Me_49 im_Me_numberOf se_Me_numberOf gcX4 rfl ha0 ⟨rfl, rfl, Nat.le_of_ble_eq_true rfl, Nat.le_of_ble_eq_true rfl⟩ ⟨Nat.zero_le _, Nat.zero_le _⟩ rfl rfl (Nat.le_of_ble_eq_true rfl) d_Me_keepOnce_2 [.int r2] rfl ?_
  refine g_istore_n (pc := 5) (lv' := [(2, .int r2), (0, .ref (ad a0)), (1, .ref (ad a1))]) C d_Me_keepOnce_5 rfl (by decide) rfl ?_
  refine g_iload_n (pc := 6) C d_Me_keepOnce_6 rfl 0 rfl ?_
  refine g_iconst (pc := 7) C (-1 : Int32) d_Me_keepOnce_7 (by decide) ?_
  refine g_icmp_ne (pc := 8) C 80 d_Me_keepOnce_8 rfl (fun e4 => ?_) (fun e4 => ?_)
  · have h := o_neg e4 h
    refine g_lv [1, 0] rfl ?_
    exact w_Me_keepOnce_80 C ha0 ha1 h
  · have h := o_pos e4 h
    refine g_aload_n (pc := 11) C d_Me_keepOnce_11 rfl 1 rfl ?_
    refine g_get (pc := 12) (k := 2) (v := .int (I a0 2)) C gcX4 inX4 (by decide) fl_Me_23 ha0 rfl d_Me_keepOnce_12 ?_
    refine g_bipush (pc := 15) C (12 : Int32) d_Me_keepOnce_15 (by decide) ?_
    refine g_icmp_lt (pc := 17) C 23 d_Me_keepOnce_17 rfl (fun e5 => ?_) (fun e5 => ?_)
    · have h := o_pos e5 h
      refine g_aload_n (pc := 23) C d_Me_keepOnce_23 rfl 1 rfl ?_
      refine g_get (pc := 24) (k := 2) (v := .int (I a0 2)) C gcX4 inX4 (by decide) fl_Me_23 ha0 rfl d_Me_keepOnce_24 ?_
      obtain ⟨v6, ev6, h⟩ := o_bd h
      refine g_topi ev6 ?_
      refine g_istore_n (pc := 27) (lv' := [(2, .int v6), (0, .ref (ad a0)), (1, .ref (ad a1))]) C d_Me_keepOnce_27 rfl (by decide) rfl ?_
      refine g_aload_n (pc := 28) C d_Me_keepOnce_28 rfl 1 rfl ?_
      obtain ⟨b7, hnb7, hb7, h⟩ := o_ra h
      refine g_get (pc := 29) (k := 0) (v := va_rf ((N a0 0).map ad)) C gcX4 inX4 (by decide) fl_Me_11 ha0 rfl d_Me_keepOnce_29 ?_
      refine g_top (g_rf hnb7) ?_
      refine g_iload_n (pc := 32) C d_Me_keepOnce_32 rfl 0 rfl ?_
      obtain ⟨hi8, h⟩ := o_gd h
      obtain ⟨b9, hnb9, hb9, h⟩ := o_ra h
      refine g_aald (pc := 33) 3 2 C hb7 (Or.inl ⟨rfl, rfl, rfl⟩) hi8 hnb9 d_Me_keepOnce_33 ?_
      refine g_iconst (pc := 34) C (0 : Int32) d_Me_keepOnce_34 (by decide) ?_
      refine g_iconst (pc := 35) C (0 : Int32) d_Me_keepOnce_35 (by decide) ?_
      obtain ⟨hi10, h⟩ := o_gd h
      refine g_iast (pc := 36) C hb9 hi10 d_Me_keepOnce_36 ?_
      obtain ⟨I11, eI11, h⟩ := o_bd h
      rw [← eI11]
      refine g_iconst (pc := 37) C (0 : Int32) d_Me_keepOnce_37 (by decide) ?_
      refine g_istore_n (pc := 38) (lv' := [(3, .int (0 : Int32)), (2, .int v6), (0, .ref (ad a0)), (1, .ref (ad a1))]) C d_Me_keepOnce_38 rfl (by decide) rfl ?_
      refine g_lv [2, 1, 0] rfl ?_
      exact w_Me_keepOnce_39 C ha0 ha1 _ _ _ _ _ h
    · have h := o_neg e5 h
      refine g_bipush (pc := 20) C (-4 : Int32) d_Me_keepOnce_20 (by decide) ?_
      obtain rfl := o_ret h
      exact g_iret (pc := 22) C d_Me_keepOnce_22
set_option maxRecDepth 20000 in
theorem k_Me_keepOnce (l : Launch) {I : HI} {J : HJ} {N : HN} {a0 : Nat} {a1 : Nat} {r : HI × HJ × Int32} (ha0 : gk Tc nC a0 (0, 4)) (ha1 : gk Tc nC a1 (0, 5)) (h : Me_keepOnce N a0 a1 I J = some r) : gM l y_Me_keepOnce c_Me_keepOnce 4 (some .int) rm_Me_keepOnce Tc nC I J N (fun ad => [.ref (ad a0), .ref (ad a1)]) (r.1, r.2.1, N, fun _ => some (.int r.2.2)) :=
  g_meth (lv := fun ad => [(0, .ref (ad a0)), (1, .ref (ad a1))]) (by decide) (fun _ => Nat.le_of_ble_eq_true rfl) (fun _ => rfl) (fun X ad C => g_lv [0, 1] rfl (w_Me_keepOnce_0 C ha0 ha1 h))
theorem d_Me_timesOfAll_0 : decode c_Me_timesOfAll 0 = .ok (.iconst 0, 1) := by decide +kernel
theorem d_Me_timesOfAll_1 : decode c_Me_timesOfAll 1 = .ok (.istore_n 1, 1) := by decide +kernel
theorem d_Me_timesOfAll_2 : decode c_Me_timesOfAll 2 = .ok (.iconst 0, 1) := by decide +kernel
theorem d_Me_timesOfAll_3 : decode c_Me_timesOfAll 3 = .ok (.istore_n 2, 1) := by decide +kernel
theorem d_Me_timesOfAll_4 : decode c_Me_timesOfAll 4 = .ok (.iload_n 2, 1) := by decide +kernel
theorem d_Me_timesOfAll_5 : decode c_Me_timesOfAll 5 = .ok (.aload_n 0, 1) := by decide +kernel
theorem d_Me_timesOfAll_6 : decode c_Me_timesOfAll 6 = .ok (.getfield 23, 3) := by decide +kernel
theorem d_Me_timesOfAll_9 : decode c_Me_timesOfAll 9 = .ok (.if_icmp .ge 18, 3) := by decide +kernel
theorem d_Me_timesOfAll_12 : decode c_Me_timesOfAll 12 = .ok (.iload_n 1, 1) := by decide +kernel
theorem d_Me_timesOfAll_13 : decode c_Me_timesOfAll 13 = .ok (.aload_n 0, 1) := by decide +kernel
theorem d_Me_timesOfAll_14 : decode c_Me_timesOfAll 14 = .ok (.iload_n 2, 1) := by decide +kernel
theorem d_Me_timesOfAll_15 : decode c_Me_timesOfAll 15 = .ok (.iconst 0, 1) := by decide +kernel
theorem d_Me_timesOfAll_16 : decode c_Me_timesOfAll 16 = .ok (.invokevirtual 41, 3) := by decide +kernel
theorem d_Me_timesOfAll_19 : decode c_Me_timesOfAll 19 = .ok (.iadd, 1) := by decide +kernel
theorem d_Me_timesOfAll_20 : decode c_Me_timesOfAll 20 = .ok (.istore_n 1, 1) := by decide +kernel
theorem d_Me_timesOfAll_21 : decode c_Me_timesOfAll 21 = .ok (.iinc 2 1, 3) := by decide +kernel
theorem d_Me_timesOfAll_24 : decode c_Me_timesOfAll 24 = .ok (.goto (-20), 3) := by decide +kernel
theorem d_Me_timesOfAll_27 : decode c_Me_timesOfAll 27 = .ok (.iload_n 1, 1) := by decide +kernel
theorem d_Me_timesOfAll_28 : decode c_Me_timesOfAll 28 = .ok (.ireturn, 1) := by decide +kernel
set_option maxRecDepth 20000 in
theorem w_Me_timesOfAll_4b {X : HX} {ad : Nat → Nat} {I : HI} {J : HJ} {N : HN} {r : Int32} {k4 : Int32 → Int32 → Option (Int32)} {a0 : Nat} {x1 : Int32} {x2 : Int32} (C : Cx X c_Me_timesOfAll RX4 3 (some .int) rm_Me_timesOfAll) (ha0 : gk Tc nC a0 (0, 4))
    (hk4 : ∀ (x1 : Int32) (x2 : Int32), k4 x1 x2 = some r → G Tc X ad nC 0 0 I J N (gE X Tc ad nC (I, J, N, fun _ => some (.int r))) 4 3 [(0, .ref (ad a0)), (1, .int x1), (2, .int x2)] [])
    (h : Me_timesOfAll_4b I N a0 k4 x1 x2 = some r) : G Tc X ad nC 0 0 I J N (gE X Tc ad nC (I, J, N, fun _ => some (.int r))) 4 3 [(0, .ref (ad a0)), (1, .int x1), (2, .int x2)] [] := by
  refine g_iload_n (pc := 4) C d_Me_timesOfAll_4 rfl 2 rfl ?_
  refine g_aload_n (pc := 5) C d_Me_timesOfAll_5 rfl 0 rfl ?_
  refine g_get (pc := 6) (k := 2) (v := .int (I a0 2)) C gcX4 inX4 (by decide) fl_Me_23 ha0 rfl d_Me_timesOfAll_6 ?_
  refine g_icmp_ge (pc := 9) C 27 d_Me_timesOfAll_9 rfl (fun e1 => ?_) (fun e1 => ?_)
  · have h := o_pos e1 h
    refine g_iload_n (pc := 27) C d_Me_timesOfAll_27 rfl 1 rfl ?_
    obtain rfl := o_ret h
    exact g_iret (pc := 28) C d_Me_timesOfAll_28
  · have h := o_neg e1 h
    refine g_iload_n (pc := 12) C d_Me_timesOfAll_12 rfl 1 rfl ?_
    refine g_aload_n (pc := 13) C d_Me_timesOfAll_13 rfl 0 rfl ?_
    refine g_iload_n (pc := 14) C d_Me_timesOfAll_14 rfl 2 rfl ?_
    refine g_iconst (pc := 15) C (0 : Int32) d_Me_timesOfAll_15 (by decide) ?_
    obtain ⟨r2, hc3, h⟩ := o_bn1 h
    refine g_V (pc := 16) (rest := [.int x1]) C (k_Me_item (xl X) ha0 hc3) sm_Me_item ml_Me_41 im_Me_item se_Me_item gcX4 rfl ha0 ⟨rfl, rfl, Nat.le_of_ble_eq_true rfl, Nat.le_of_ble_eq_true rfl⟩ ⟨Nat.zero_le _, Nat.zero_le _⟩ rfl rfl (Nat.le_of_ble_eq_true rfl) d_Me_timesOfAll_16 [.int r2, .int x1] rfl ?_
    refine g_iadd (pc := 19) C d_Me_timesOfAll_19 ?_
    obtain ⟨v4, ev4, h⟩ := o_bd h
    refine g_topi ev4 ?_
    refine g_istore_n (pc := 20) (lv' := [(1, .int v4), (0, .ref (ad a0)), (2, .int x2)]) C d_Me_timesOfAll_20 rfl (by decide) rfl ?_
    refine g_iinc (pc := 21) (q := 2) (lv' := [(2, .int (x2 + 1)), (1, .int v4), (0, .ref (ad a0))]) C d_Me_timesOfAll_21 rfl rfl (by decide) rfl ?_
    refine g_goto (pc := 24) C 4 d_Me_timesOfAll_24 rfl ?_
    refine g_lv [2, 1, 0] rfl ?_
    exact hk4 _ _ h
set_option maxRecDepth 20000 in
theorem w_Me_timesOfAll_4 {X : HX} {ad : Nat → Nat} {I : HI} {J : HJ} {N : HN} {r : Int32} {a0 : Nat} (C : Cx X c_Me_timesOfAll RX4 3 (some .int) rm_Me_timesOfAll) (ha0 : gk Tc nC a0 (0, 4)) : ∀ (n : Nat) (x1 : Int32) (x2 : Int32), Me_timesOfAll_4 I N a0 n x1 x2 = some r → G Tc X ad nC 0 0 I J N (gE X Tc ad nC (I, J, N, fun _ => some (.int r))) 4 3 [(0, .ref (ad a0)), (1, .int x1), (2, .int x2)] [] := by
  intro n
  induction n with
  | zero => intro x1 x2 h; cases h
  | succ n ih => intro x1 x2 h; exact w_Me_timesOfAll_4b C ha0 ih h
set_option maxRecDepth 20000 in
theorem w_Me_timesOfAll_0 {X : HX} {ad : Nat → Nat} {I : HI} {J : HJ} {N : HN} {r : Int32} {a0 : Nat} (C : Cx X c_Me_timesOfAll RX4 3 (some .int) rm_Me_timesOfAll) (ha0 : gk Tc nC a0 (0, 4))
    (h : Me_timesOfAll_0 I N a0 = some r) : G Tc X ad nC 0 0 I J N (gE X Tc ad nC (I, J, N, fun _ => some (.int r))) 0 3 [(0, .ref (ad a0))] [] := by
  refine g_iconst (pc := 0) C (0 : Int32) d_Me_timesOfAll_0 (by decide) ?_
  refine g_istore_n (pc := 1) (lv' := [(1, .int (0 : Int32)), (0, .ref (ad a0))]) C d_Me_timesOfAll_1 rfl (by decide) rfl ?_
  refine g_iconst (pc := 2) C (0 : Int32) d_Me_timesOfAll_2 (by decide) ?_
  refine g_istore_n (pc := 3) (lv' := [(2, .int (0 : Int32)), (1, .int (0 : Int32)), (0, .ref (ad a0))]) C d_Me_timesOfAll_3 rfl (by decide) rfl ?_
  refine g_lv [2, 1, 0] rfl ?_
  exact w_Me_timesOfAll_4 C ha0 _ _ _ h
set_option maxRecDepth 20000 in
theorem k_Me_timesOfAll (l : Launch) {I : HI} {J : HJ} {N : HN} {a0 : Nat} {r : Int32} (ha0 : gk Tc nC a0 (0, 4)) (h : Me_timesOfAll I N a0 = some r) : gM l y_Me_timesOfAll c_Me_timesOfAll 3 (some .int) rm_Me_timesOfAll Tc nC I J N (fun ad => [.ref (ad a0)]) (I, J, N, fun _ => some (.int r)) :=
  g_meth (lv := fun ad => [(0, .ref (ad a0))]) (by decide) (fun _ => Nat.le_of_ble_eq_true rfl) (fun _ => rfl) (fun X ad C => g_lv [0] rfl (w_Me_timesOfAll_0 C ha0 h))
theorem d_Pa_putNumber_0 : decode c_Pa_putNumber 0 = .ok (.iload_n 1, 1) := by decide +kernel
theorem d_Pa_putNumber_1 : decode c_Pa_putNumber 1 = .ok (.bipush 7, 2) := by decide +kernel
theorem d_Pa_putNumber_3 : decode c_Pa_putNumber 3 = .ok (.if_icmp .ge 15, 3) := by decide +kernel
theorem d_Pa_putNumber_6 : decode c_Pa_putNumber 6 = .ok (.aload_n 0, 1) := by decide +kernel
theorem d_Pa_putNumber_7 : decode c_Pa_putNumber 7 = .ok (.getfield 12, 3) := by decide +kernel
theorem d_Pa_putNumber_10 : decode c_Pa_putNumber 10 = .ok (.iload_n 1, 1) := by decide +kernel
theorem d_Pa_putNumber_11 : decode c_Pa_putNumber 11 = .ok (.lload_n 2, 1) := by decide +kernel
theorem d_Pa_putNumber_12 : decode c_Pa_putNumber 12 = .ok (.invokevirtual 25, 3) := by decide +kernel
theorem d_Pa_putNumber_15 : decode c_Pa_putNumber 15 = .ok (.goto 15, 3) := by decide +kernel
theorem d_Pa_putNumber_18 : decode c_Pa_putNumber 18 = .ok (.aload_n 0, 1) := by decide +kernel
theorem d_Pa_putNumber_19 : decode c_Pa_putNumber 19 = .ok (.getfield 18, 3) := by decide +kernel
theorem d_Pa_putNumber_22 : decode c_Pa_putNumber 22 = .ok (.iload_n 1, 1) := by decide +kernel
theorem d_Pa_putNumber_23 : decode c_Pa_putNumber 23 = .ok (.bipush 7, 2) := by decide +kernel
theorem d_Pa_putNumber_25 : decode c_Pa_putNumber 25 = .ok (.isub, 1) := by decide +kernel
theorem d_Pa_putNumber_26 : decode c_Pa_putNumber 26 = .ok (.lload_n 2, 1) := by decide +kernel
theorem d_Pa_putNumber_27 : decode c_Pa_putNumber 27 = .ok (.invokevirtual 25, 3) := by decide +kernel
theorem d_Pa_putNumber_30 : decode c_Pa_putNumber 30 = .ok (.return_, 1) := by decide +kernel
set_option maxRecDepth 20000 in
theorem w_Pa_putNumber_0 {X : HX} {ad : Nat → Nat} {I : HI} {J : HJ} {N : HN} {r : HJ} {a0 : Nat} {p1 : Int32} {p2 : Int64} (C : Cx X c_Pa_putNumber RX5 4 none rm_Pa_putNumber) (ha0 : gk Tc nC a0 (0, 5))
    (h : Pa_putNumber_0 N a0 p1 p2 J = some r) : G Tc X ad nC 0 0 I J N (gE X Tc ad nC (I, r, N, fun _ => none)) 0 4 [(0, .ref (ad a0)), (1, .int p1), (2, .long p2)] [] := by
  refine g_iload_n (pc := 0) C d_Pa_putNumber_0 rfl 1 rfl ?_
  refine g_bipush (pc := 1) C (7 : Int32) d_Pa_putNumber_1 (by decide) ?_
  refine g_icmp_ge (pc := 3) C 18 d_Pa_putNumber_3 rfl (fun e1 => ?_) (fun e1 => ?_)
  · have h := o_pos e1 h
    refine g_aload_n (pc := 18) C d_Pa_putNumber_18 rfl 0 rfl ?_
    obtain ⟨b2, hnb2, hb2, h⟩ := o_rq h
    refine g_get (pc := 19) (k := 1) (v := va_rf ((N a0 1).map ad)) C gcX5 inX5 (by decide) fl_Pa_18 ha0 rfl d_Pa_putNumber_19 ?_
    refine g_top (g_rf hnb2) ?_
    refine g_iload_n (pc := 22) C d_Pa_putNumber_22 rfl 1 rfl ?_
    refine g_bipush (pc := 23) C (7 : Int32) d_Pa_putNumber_23 (by decide) ?_
    refine g_isub (pc := 25) C d_Pa_putNumber_25 ?_
    refine g_lload_n (pc := 26) C d_Pa_putNumber_26 rfl 2 rfl ?_
    obtain ⟨J3, hc4, h⟩ := o_bn1 h
    refine g_V (pc := 27) (rest := []) C (k_Po_put (xl X) hb2 hc4) sm_Po_put ml_Pa_25 im_Po_put se_Po_put gcX6 rfl hb2 ⟨rfl, rfl, Nat.le_of_ble_eq_true rfl, Nat.le_of_ble_eq_true rfl⟩ ⟨Nat.zero_le _, Nat.zero_le _⟩ rfl rfl (Nat.le_of_ble_eq_true rfl) d_Pa_putNumber_27 [] rfl ?_
    obtain rfl := o_ret h
    exact g_vret (pc := 30) C d_Pa_putNumber_30
  · have h := o_neg e1 h
    refine g_aload_n (pc := 6) C d_Pa_putNumber_6 rfl 0 rfl ?_
    obtain ⟨b5, hnb5, hb5, h⟩ := o_rq h
    refine g_get (pc := 7) (k := 0) (v := va_rf ((N a0 0).map ad)) C gcX5 inX5 (by decide) fl_Pa_12 ha0 rfl d_Pa_putNumber_7 ?_
    refine g_top (g_rf hnb5) ?_
    refine g_iload_n (pc := 10) C d_Pa_putNumber_10 rfl 1 rfl ?_
    refine g_lload_n (pc := 11) C d_Pa_putNumber_11 rfl 2 rfl ?_
    obtain ⟨J6, hc7, h⟩ := o_bn1 h
    refine g_V (pc := 12) (rest := []) C (k_Po_put (xl X) hb5 hc7) sm_Po_put ml_Pa_25 im_Po_put se_Po_put gcX6 rfl hb5 ⟨rfl, rfl, Nat.le_of_ble_eq_true rfl, Nat.le_of_ble_eq_true rfl⟩ ⟨Nat.zero_le _, Nat.zero_le _⟩ rfl rfl (Nat.le_of_ble_eq_true rfl) d_Pa_putNumber_12 [] rfl ?_
    refine g_goto (pc := 15) C 30 d_Pa_putNumber_15 rfl ?_
    obtain rfl := o_ret h
    exact g_vret (pc := 30) C d_Pa_putNumber_30
set_option maxRecDepth 20000 in
theorem k_Pa_putNumber (l : Launch) {I : HI} {J : HJ} {N : HN} {a0 : Nat} {p1 : Int32} {p2 : Int64} {r : HJ} (ha0 : gk Tc nC a0 (0, 5)) (h : Pa_putNumber N a0 p1 p2 J = some r) : gM l y_Pa_putNumber c_Pa_putNumber 4 none rm_Pa_putNumber Tc nC I J N (fun ad => [.ref (ad a0), .int p1, .long p2]) (I, r, N, fun _ => none) :=
  g_meth (lv := fun ad => [(0, .ref (ad a0)), (1, .int p1), (2, .long p2)]) (by decide) (fun _ => Nat.le_of_ble_eq_true rfl) (fun _ => rfl) (fun X ad C => g_lv [0, 1, 2] rfl (w_Pa_putNumber_0 C ha0 h))
theorem d_Po_isOfParity_0 : decode c_Po_isOfParity 0 = .ok (.iconst 0, 1) := by decide +kernel
theorem d_Po_isOfParity_1 : decode c_Po_isOfParity 1 = .ok (.istore_n 2, 1) := by decide +kernel
theorem d_Po_isOfParity_2 : decode c_Po_isOfParity 2 = .ok (.iconst 0, 1) := by decide +kernel
theorem d_Po_isOfParity_3 : decode c_Po_isOfParity 3 = .ok (.istore_n 3, 1) := by decide +kernel
theorem d_Po_isOfParity_4 : decode c_Po_isOfParity 4 = .ok (.iload_n 3, 1) := by decide +kernel
theorem d_Po_isOfParity_5 : decode c_Po_isOfParity 5 = .ok (.bipush 7, 2) := by decide +kernel
theorem d_Po_isOfParity_7 : decode c_Po_isOfParity 7 = .ok (.if_icmp .ge 31, 3) := by decide +kernel
theorem d_Po_isOfParity_10 : decode c_Po_isOfParity 10 = .ok (.aload_n 0, 1) := by decide +kernel
theorem d_Po_isOfParity_11 : decode c_Po_isOfParity 11 = .ok (.getfield 9, 3) := by decide +kernel
theorem d_Po_isOfParity_14 : decode c_Po_isOfParity 14 = .ok (.iload_n 3, 1) := by decide +kernel
theorem d_Po_isOfParity_15 : decode c_Po_isOfParity 15 = .ok (.laload, 1) := by decide +kernel
theorem d_Po_isOfParity_16 : decode c_Po_isOfParity 16 = .ok (.lconst 0, 1) := by decide +kernel
theorem d_Po_isOfParity_17 : decode c_Po_isOfParity 17 = .ok (.lcmp, 1) := by decide +kernel
theorem d_Po_isOfParity_18 : decode c_Po_isOfParity 18 = .ok (.ifCond .eq 14, 3) := by decide +kernel
theorem d_Po_isOfParity_21 : decode c_Po_isOfParity 21 = .ok (.iload_n 3, 1) := by decide +kernel
theorem d_Po_isOfParity_22 : decode c_Po_isOfParity 22 = .ok (.iconst 2, 1) := by decide +kernel
theorem d_Po_isOfParity_23 : decode c_Po_isOfParity 23 = .ok (.irem, 1) := by decide +kernel
theorem d_Po_isOfParity_24 : decode c_Po_isOfParity 24 = .ok (.iload_n 1, 1) := by decide +kernel
theorem d_Po_isOfParity_25 : decode c_Po_isOfParity 25 = .ok (.if_icmp .eq 5, 3) := by decide +kernel
theorem d_Po_isOfParity_28 : decode c_Po_isOfParity 28 = .ok (.iconst 0, 1) := by decide +kernel
theorem d_Po_isOfParity_29 : decode c_Po_isOfParity 29 = .ok (.ireturn, 1) := by decide +kernel
theorem d_Po_isOfParity_30 : decode c_Po_isOfParity 30 = .ok (.iconst 1, 1) := by decide +kernel
theorem d_Po_isOfParity_31 : decode c_Po_isOfParity 31 = .ok (.istore_n 2, 1) := by decide +kernel
theorem d_Po_isOfParity_32 : decode c_Po_isOfParity 32 = .ok (.iinc 3 1, 3) := by decide +kernel
theorem d_Po_isOfParity_35 : decode c_Po_isOfParity 35 = .ok (.goto (-31), 3) := by decide +kernel
theorem d_Po_isOfParity_38 : decode c_Po_isOfParity 38 = .ok (.iload_n 2, 1) := by decide +kernel
theorem d_Po_isOfParity_39 : decode c_Po_isOfParity 39 = .ok (.ireturn, 1) := by decide +kernel
set_option maxRecDepth 20000 in
theorem w_Po_isOfParity_32 {X : HX} {ad : Nat → Nat} {I : HI} {J : HJ} {N : HN} {r : Int32} {k4 : Int32 → Int32 → Option (Int32)} {a0 : Nat} {p1 : Int32} {x2 : Int32} {x3 : Int32} (C : Cx X c_Po_isOfParity RX6 4 (some .boolean) rm_Po_isOfParity) (ha0 : gk Tc nC a0 (0, 6))
    (hk4 : ∀ (x2 : Int32) (x3 : Int32), k4 x2 x3 = some r → G Tc X ad nC 0 0 I J N (gE X Tc ad nC (I, J, N, fun _ => some (.int r))) 4 4 [(0, .ref (ad a0)), (1, .int p1), (2, .int x2), (3, .int x3)] [])
    (h : Po_isOfParity_32 J N a0 p1 k4 x2 x3 = some r) : G Tc X ad nC 0 0 I J N (gE X Tc ad nC (I, J, N, fun _ => some (.int r))) 32 4 [(0, .ref (ad a0)), (1, .int p1), (2, .int x2), (3, .int x3)] [] := by
  refine g_iinc (pc := 32) (q := 3) (lv' := [(3, .int (x3 + 1)), (0, .ref (ad a0)), (1, .int p1), (2, .int x2)]) C d_Po_isOfParity_32 rfl rfl (by decide) rfl ?_
  refine g_goto (pc := 35) C 4 d_Po_isOfParity_35 rfl ?_
  refine g_lv [1, 2, 3, 0] rfl ?_
  exact hk4 _ _ h
set_option maxRecDepth 20000 in
theorem w_Po_isOfParity_4b {X : HX} {ad : Nat → Nat} {I : HI} {J : HJ} {N : HN} {r : Int32} {k4 : Int32 → Int32 → Option (Int32)} {a0 : Nat} {p1 : Int32} {x2 : Int32} {x3 : Int32} (C : Cx X c_Po_isOfParity RX6 4 (some .boolean) rm_Po_isOfParity) (ha0 : gk Tc nC a0 (0, 6))
    (hk4 : ∀ (x2 : Int32) (x3 : Int32), k4 x2 x3 = some r → G Tc X ad nC 0 0 I J N (gE X Tc ad nC (I, J, N, fun _ => some (.int r))) 4 4 [(0, .ref (ad a0)), (1, .int p1), (2, .int x2), (3, .int x3)] [])
    (h : Po_isOfParity_4b J N a0 p1 k4 x2 x3 = some r) : G Tc X ad nC 0 0 I J N (gE X Tc ad nC (I, J, N, fun _ => some (.int r))) 4 4 [(0, .ref (ad a0)), (1, .int p1), (2, .int x2), (3, .int x3)] [] := by
  refine g_iload_n (pc := 4) C d_Po_isOfParity_4 rfl 3 rfl ?_
  refine g_bipush (pc := 5) C (7 : Int32) d_Po_isOfParity_5 (by decide) ?_
  refine g_icmp_ge (pc := 7) C 38 d_Po_isOfParity_7 rfl (fun e1 => ?_) (fun e1 => ?_)
  · have h := o_pos e1 h
    refine g_iload_n (pc := 38) C d_Po_isOfParity_38 rfl 2 rfl ?_
    obtain ⟨hz2, h⟩ := o_gd h
    obtain rfl := o_ret h
    exact g_zret (pc := 39) C (zn_B hz2) d_Po_isOfParity_39
  · have h := o_neg e1 h
    refine g_aload_n (pc := 10) C d_Po_isOfParity_10 rfl 0 rfl ?_
    obtain ⟨b3, hnb3, hb3, h⟩ := o_ra h
    refine g_get (pc := 11) (k := 0) (v := va_rf ((N a0 0).map ad)) C gcX6 inX6 (by decide) fl_Po_9 ha0 rfl d_Po_isOfParity_11 ?_
    refine g_top (g_rf hnb3) ?_
    refine g_iload_n (pc := 14) C d_Po_isOfParity_14 rfl 3 rfl ?_
    obtain ⟨hi4, h⟩ := o_gd h
    refine g_lald (pc := 15) C hb3 hi4 d_Po_isOfParity_15 ?_
    refine g_lconst (pc := 16) C (0 : Int64) d_Po_isOfParity_16 (by decide) ?_
    refine g_lcmp_eq (pc := 17) C 32 d_Po_isOfParity_17 d_Po_isOfParity_18 rfl (fun e5 => ?_) (fun e5 => ?_)
    · have h := o_pos e5 h
      refine g_lv [0, 1, 2, 3] rfl ?_
      exact w_Po_isOfParity_32 C ha0 hk4 h
    · have h := o_neg e5 h
      refine g_iload_n (pc := 21) C d_Po_isOfParity_21 rfl 3 rfl ?_
      refine g_iconst (pc := 22) C (2 : Int32) d_Po_isOfParity_22 (by decide) ?_
      refine g_irem (pc := 23) C d_Po_isOfParity_23 (by decide) ?_
      refine g_iload_n (pc := 24) C d_Po_isOfParity_24 rfl 1 rfl ?_
      refine g_icmp_eq (pc := 25) C 30 d_Po_isOfParity_25 rfl (fun e6 => ?_) (fun e6 => ?_)
      · have h := o_pos e6 h
        refine g_iconst (pc := 30) C (1 : Int32) d_Po_isOfParity_30 (by decide) ?_
        refine g_istore_n (pc := 31) (lv' := [(2, .int (1 : Int32)), (0, .ref (ad a0)), (1, .int p1), (3, .int x3)]) C d_Po_isOfParity_31 rfl (by decide) rfl ?_
        refine g_lv [1, 2, 0, 3] rfl ?_
        exact w_Po_isOfParity_32 C ha0 hk4 h
      · have h := o_neg e6 h
        refine g_iconst (pc := 28) C (0 : Int32) d_Po_isOfParity_28 (by decide) ?_
        obtain rfl := o_ret h
        exact g_zret (pc := 29) C zn_0 d_Po_isOfParity_29
set_option maxRecDepth 20000 in
theorem w_Po_isOfParity_4 {X : HX} {ad : Nat → Nat} {I : HI} {J : HJ} {N : HN} {r : Int32} {a0 : Nat} {p1 : Int32} (C : Cx X c_Po_isOfParity RX6 4 (some .boolean) rm_Po_isOfParity) (ha0 : gk Tc nC a0 (0, 6)) : ∀ (n : Nat) (x2 : Int32) (x3 : Int32), Po_isOfParity_4 J N a0 p1 n x2 x3 = some r → G Tc X ad nC 0 0 I J N (gE X Tc ad nC (I, J, N, fun _ => some (.int r))) 4 4 [(0, .ref (ad a0)), (1, .int p1), (2, .int x2), (3, .int x3)] [] := by
  intro n
  induction n with
  | zero => intro x2 x3 h; cases h
  | succ n ih => intro x2 x3 h; exact w_Po_isOfParity_4b C ha0 ih h
set_option maxRecDepth 20000 in
theorem w_Po_isOfParity_0 {X : HX} {ad : Nat → Nat} {I : HI} {J : HJ} {N : HN} {r : Int32} {a0 : Nat} {p1 : Int32} (C : Cx X c_Po_isOfParity RX6 4 (some .boolean) rm_Po_isOfParity) (ha0 : gk Tc nC a0 (0, 6))
    (h : Po_isOfParity_0 J N a0 p1 = some r) : G Tc X ad nC 0 0 I J N (gE X Tc ad nC (I, J, N, fun _ => some (.int r))) 0 4 [(0, .ref (ad a0)), (1, .int p1)] [] := by
  refine g_iconst (pc := 0) C (0 : Int32) d_Po_isOfParity_0 (by decide) ?_
  refine g_istore_n (pc := 1) (lv' := [(2, .int (0 : Int32)), (0, .ref (ad a0)), (1, .int p1)]) C d_Po_isOfParity_1 rfl (by decide) rfl ?_
  refine g_iconst (pc := 2) C (0 : Int32) d_Po_isOfParity_2 (by decide) ?_
  refine g_istore_n (pc := 3) (lv' := [(3, .int (0 : Int32)), (2, .int (0 : Int32)), (0, .ref (ad a0)), (1, .int p1)]) C d_Po_isOfParity_3 rfl (by decide) rfl ?_
  refine g_lv [2, 3, 1, 0] rfl ?_
  exact w_Po_isOfParity_4 C ha0 _ _ _ h
set_option maxRecDepth 20000 in
theorem k_Po_isOfParity (l : Launch) {I : HI} {J : HJ} {N : HN} {a0 : Nat} {p1 : Int32} {r : Int32} (ha0 : gk Tc nC a0 (0, 6)) (h : Po_isOfParity J N a0 p1 = some r) : gM l y_Po_isOfParity c_Po_isOfParity 4 (some .boolean) rm_Po_isOfParity Tc nC I J N (fun ad => [.ref (ad a0), .int p1]) (I, J, N, fun _ => some (.int r)) :=
  g_meth (lv := fun ad => [(0, .ref (ad a0)), (1, .int p1)]) (by decide) (fun _ => Nat.le_of_ble_eq_true rfl) (fun _ => rfl) (fun X ad C => g_lv [0, 1] rfl (w_Po_isOfParity_0 C ha0 h))
theorem d_Pa_isLawful_0 : decode c_Pa_isLawful 0 = .ok (.aload_n 0, 1) := by decide +kernel
theorem d_Pa_isLawful_1 : decode c_Pa_isLawful 1 = .ok (.getfield 12, 3) := by decide +kernel
theorem d_Pa_isLawful_4 : decode c_Pa_isLawful 4 = .ok (.iconst 0, 1) := by decide +kernel
theorem d_Pa_isLawful_5 : decode c_Pa_isLawful 5 = .ok (.invokevirtual 33, 3) := by decide +kernel
theorem d_Pa_isLawful_8 : decode c_Pa_isLawful 8 = .ok (.ifCond .eq 14, 3) := by decide +kernel
theorem d_Pa_isLawful_11 : decode c_Pa_isLawful 11 = .ok (.aload_n 0, 1) := by decide +kernel
theorem d_Pa_isLawful_12 : decode c_Pa_isLawful 12 = .ok (.getfield 18, 3) := by decide +kernel
theorem d_Pa_isLawful_15 : decode c_Pa_isLawful 15 = .ok (.iconst 1, 1) := by decide +kernel
theorem d_Pa_isLawful_16 : decode c_Pa_isLawful 16 = .ok (.invokevirtual 33, 3) := by decide +kernel
theorem d_Pa_isLawful_19 : decode c_Pa_isLawful 19 = .ok (.ifCond .ne 25, 3) := by decide +kernel
theorem d_Pa_isLawful_22 : decode c_Pa_isLawful 22 = .ok (.aload_n 0, 1) := by decide +kernel
theorem d_Pa_isLawful_23 : decode c_Pa_isLawful 23 = .ok (.getfield 12, 3) := by decide +kernel
theorem d_Pa_isLawful_26 : decode c_Pa_isLawful 26 = .ok (.iconst 1, 1) := by decide +kernel
theorem d_Pa_isLawful_27 : decode c_Pa_isLawful 27 = .ok (.invokevirtual 33, 3) := by decide +kernel
theorem d_Pa_isLawful_30 : decode c_Pa_isLawful 30 = .ok (.ifCond .eq 18, 3) := by decide +kernel
theorem d_Pa_isLawful_33 : decode c_Pa_isLawful 33 = .ok (.aload_n 0, 1) := by decide +kernel
theorem d_Pa_isLawful_34 : decode c_Pa_isLawful 34 = .ok (.getfield 18, 3) := by decide +kernel
theorem d_Pa_isLawful_37 : decode c_Pa_isLawful 37 = .ok (.iconst 0, 1) := by decide +kernel
theorem d_Pa_isLawful_38 : decode c_Pa_isLawful 38 = .ok (.invokevirtual 33, 3) := by decide +kernel
theorem d_Pa_isLawful_41 : decode c_Pa_isLawful 41 = .ok (.ifCond .eq 7, 3) := by decide +kernel
theorem d_Pa_isLawful_44 : decode c_Pa_isLawful 44 = .ok (.iconst 1, 1) := by decide +kernel
theorem d_Pa_isLawful_45 : decode c_Pa_isLawful 45 = .ok (.goto 4, 3) := by decide +kernel
theorem d_Pa_isLawful_48 : decode c_Pa_isLawful 48 = .ok (.iconst 0, 1) := by decide +kernel
theorem d_Pa_isLawful_49 : decode c_Pa_isLawful 49 = .ok (.ireturn, 1) := by decide +kernel
set_option maxRecDepth 20000 in
theorem w_Pa_isLawful_22 {X : HX} {ad : Nat → Nat} {I : HI} {J : HJ} {N : HN} {r : Int32} {a0 : Nat} (C : Cx X c_Pa_isLawful RX5 1 (some .boolean) rm_Pa_isLawful) (ha0 : gk Tc nC a0 (0, 5))
    (h : Pa_isLawful_22 J N a0 = some r) : G Tc X ad nC 0 0 I J N (gE X Tc ad nC (I, J, N, fun _ => some (.int r))) 22 1 [(0, .ref (ad a0))] [] := by
  refine g_aload_n (pc := 22) C d_Pa_isLawful_22 rfl 0 rfl ?_
  obtain ⟨b1, hnb1, hb1, h⟩ := o_rq h
  refine g_get (pc := 23) (k := 0) (v := va_rf ((N a0 0).map ad)) C gcX5 inX5 (by decide) fl_Pa_12 ha0 rfl d_Pa_isLawful_23 ?_
  refine g_top (g_rf hnb1) ?_
  refine g_iconst (pc := 26) C (1 : Int32) d_Pa_isLawful_26 (by decide) ?_
  obtain ⟨r2, hc3, h⟩ := o_bn1 h
  refine g_V (pc := 27) (rest := []) C (k_Po_isOfParity (xl X) hb1 hc3) sm_Po_isOfParity ml_Pa_33 im_Po_isOfParity se_Po_isOfParity gcX6 rfl hb1 ⟨rfl, rfl, Nat.le_of_ble_eq_true rfl, Nat.le_of_ble_eq_true rfl⟩ ⟨Nat.zero_le _, Nat.zero_le _⟩ rfl rfl (Nat.le_of_ble_eq_true rfl) d_Pa_isLawful_27 [.int r2] rfl ?_
  refine g_if_eq (pc := 30) C 48 d_Pa_isLawful_30 rfl (fun e4 => ?_) (fun e4 => ?_)
  · have h := o_pos e4 h
    refine g_iconst (pc := 48) C (0 : Int32) d_Pa_isLawful_48 (by decide) ?_
    obtain rfl := o_ret h
    exact g_zret (pc := 49) C zn_0 d_Pa_isLawful_49
  · have h := o_neg e4 h
    refine g_aload_n (pc := 33) C d_Pa_isLawful_33 rfl 0 rfl ?_
    obtain ⟨b5, hnb5, hb5, h⟩ := o_rq h
    refine g_get (pc := 34) (k := 1) (v := va_rf ((N a0 1).map ad)) C gcX5 inX5 (by decide) fl_Pa_18 ha0 rfl d_Pa_isLawful_34 ?_
    refine g_top (g_rf hnb5) ?_
    refine g_iconst (pc := 37) C (0 : Int32) d_Pa_isLawful_37 (by decide) ?_
    obtain ⟨r6, hc7, h⟩ := o_bn1 h
    refine g_V (pc := 38) (rest := []) C (k_Po_isOfParity (xl X) hb5 hc7) sm_Po_isOfParity ml_Pa_33 im_Po_isOfParity se_Po_isOfParity gcX6 rfl hb5 ⟨rfl, rfl, Nat.le_of_ble_eq_true rfl, Nat.le_of_ble_eq_true rfl⟩ ⟨Nat.zero_le _, Nat.zero_le _⟩ rfl rfl (Nat.le_of_ble_eq_true rfl) d_Pa_isLawful_38 [.int r6] rfl ?_
    refine g_if_eq (pc := 41) C 48 d_Pa_isLawful_41 rfl (fun e8 => ?_) (fun e8 => ?_)
    · have h := o_pos e8 h
      refine g_iconst (pc := 48) C (0 : Int32) d_Pa_isLawful_48 (by decide) ?_
      obtain rfl := o_ret h
      exact g_zret (pc := 49) C zn_0 d_Pa_isLawful_49
    · have h := o_neg e8 h
      refine g_iconst (pc := 44) C (1 : Int32) d_Pa_isLawful_44 (by decide) ?_
      refine g_goto (pc := 45) C 49 d_Pa_isLawful_45 rfl ?_
      obtain rfl := o_ret h
      exact g_zret (pc := 49) C zn_1 d_Pa_isLawful_49
set_option maxRecDepth 20000 in
theorem w_Pa_isLawful_0 {X : HX} {ad : Nat → Nat} {I : HI} {J : HJ} {N : HN} {r : Int32} {a0 : Nat} (C : Cx X c_Pa_isLawful RX5 1 (some .boolean) rm_Pa_isLawful) (ha0 : gk Tc nC a0 (0, 5))
    (h : Pa_isLawful_0 J N a0 = some r) : G Tc X ad nC 0 0 I J N (gE X Tc ad nC (I, J, N, fun _ => some (.int r))) 0 1 [(0, .ref (ad a0))] [] := by
  refine g_aload_n (pc := 0) C d_Pa_isLawful_0 rfl 0 rfl ?_
  obtain ⟨b1, hnb1, hb1, h⟩ := o_rq h
  refine g_get (pc := 1) (k := 0) (v := va_rf ((N a0 0).map ad)) C gcX5 inX5 (by decide) fl_Pa_12 ha0 rfl d_Pa_isLawful_1 ?_
  refine g_top (g_rf hnb1) ?_
  refine g_iconst (pc := 4) C (0 : Int32) d_Pa_isLawful_4 (by decide) ?_
  obtain ⟨r2, hc3, h⟩ := o_bn1 h
  refine g_V (pc := 5) (rest := []) C (k_Po_isOfParity (xl X) hb1 hc3) sm_Po_isOfParity ml_Pa_33 im_Po_isOfParity se_Po_isOfParity gcX6 rfl hb1 ⟨rfl, rfl, Nat.le_of_ble_eq_true rfl, Nat.le_of_ble_eq_true rfl⟩ ⟨Nat.zero_le _, Nat.zero_le _⟩ rfl rfl (Nat.le_of_ble_eq_true rfl) d_Pa_isLawful_5 [.int r2] rfl ?_
  refine g_if_eq (pc := 8) C 22 d_Pa_isLawful_8 rfl (fun e4 => ?_) (fun e4 => ?_)
  · have h := o_pos e4 h
    refine g_lv [0] rfl ?_
    exact w_Pa_isLawful_22 C ha0 h
  · have h := o_neg e4 h
    refine g_aload_n (pc := 11) C d_Pa_isLawful_11 rfl 0 rfl ?_
    obtain ⟨b5, hnb5, hb5, h⟩ := o_rq h
    refine g_get (pc := 12) (k := 1) (v := va_rf ((N a0 1).map ad)) C gcX5 inX5 (by decide) fl_Pa_18 ha0 rfl d_Pa_isLawful_12 ?_
    refine g_top (g_rf hnb5) ?_
    refine g_iconst (pc := 15) C (1 : Int32) d_Pa_isLawful_15 (by decide) ?_
    obtain ⟨r6, hc7, h⟩ := o_bn1 h
    refine g_V (pc := 16) (rest := []) C (k_Po_isOfParity (xl X) hb5 hc7) sm_Po_isOfParity ml_Pa_33 im_Po_isOfParity se_Po_isOfParity gcX6 rfl hb5 ⟨rfl, rfl, Nat.le_of_ble_eq_true rfl, Nat.le_of_ble_eq_true rfl⟩ ⟨Nat.zero_le _, Nat.zero_le _⟩ rfl rfl (Nat.le_of_ble_eq_true rfl) d_Pa_isLawful_16 [.int r6] rfl ?_
    refine g_if_ne (pc := 19) C 44 d_Pa_isLawful_19 rfl (fun e8 => ?_) (fun e8 => ?_)
    · have h := o_neg e8 h
      refine g_iconst (pc := 44) C (1 : Int32) d_Pa_isLawful_44 (by decide) ?_
      refine g_goto (pc := 45) C 49 d_Pa_isLawful_45 rfl ?_
      obtain rfl := o_ret h
      exact g_zret (pc := 49) C zn_1 d_Pa_isLawful_49
    · have h := o_pos e8 h
      refine g_lv [0] rfl ?_
      exact w_Pa_isLawful_22 C ha0 h
set_option maxRecDepth 20000 in
theorem k_Pa_isLawful (l : Launch) {I : HI} {J : HJ} {N : HN} {a0 : Nat} {r : Int32} (ha0 : gk Tc nC a0 (0, 5)) (h : Pa_isLawful J N a0 = some r) : gM l y_Pa_isLawful c_Pa_isLawful 1 (some .boolean) rm_Pa_isLawful Tc nC I J N (fun ad => [.ref (ad a0)]) (I, J, N, fun _ => some (.int r)) :=
  g_meth (lv := fun ad => [(0, .ref (ad a0))]) (by decide) (fun _ => Nat.le_of_ble_eq_true rfl) (fun _ => rfl) (fun X ad C => g_lv [0] rfl (w_Pa_isLawful_0 C ha0 h))
theorem d_Pa_greaterDegree_0 : decode c_Pa_greaterDegree 0 = .ok (.aload_n 0, 1) := by decide +kernel
theorem d_Pa_greaterDegree_1 : decode c_Pa_greaterDegree 1 = .ok (.getfield 12, 3) := by decide +kernel
theorem d_Pa_greaterDegree_4 : decode c_Pa_greaterDegree 4 = .ok (.invokevirtual 37, 3) := by decide +kernel
theorem d_Pa_greaterDegree_7 : decode c_Pa_greaterDegree 7 = .ok (.aload_n 0, 1) := by decide +kernel
theorem d_Pa_greaterDegree_8 : decode c_Pa_greaterDegree 8 = .ok (.getfield 18, 3) := by decide +kernel
theorem d_Pa_greaterDegree_11 : decode c_Pa_greaterDegree 11 = .ok (.invokevirtual 37, 3) := by decide +kernel
theorem d_Pa_greaterDegree_14 : decode c_Pa_greaterDegree 14 = .ok (.invokestatic 41, 3) := by decide +kernel
theorem d_Pa_greaterDegree_17 : decode c_Pa_greaterDegree 17 = .ok (.ireturn, 1) := by decide +kernel
set_option maxRecDepth 20000 in
theorem w_Pa_greaterDegree_0 {X : HX} {ad : Nat → Nat} {I : HI} {J : HJ} {N : HN} {r : Int32} {a0 : Nat} (C : Cx X c_Pa_greaterDegree RX5 1 (some .int) rm_Pa_greaterDegree) (ha0 : gk Tc nC a0 (0, 5))
    (h : Pa_greaterDegree_0 J N a0 = some r) : G Tc X ad nC 0 0 I J N (gE X Tc ad nC (I, J, N, fun _ => some (.int r))) 0 1 [(0, .ref (ad a0))] [] := by
  refine g_aload_n (pc := 0) C d_Pa_greaterDegree_0 rfl 0 rfl ?_
  obtain ⟨b1, hnb1, hb1, h⟩ := o_rq h
  refine g_get (pc := 1) (k := 0) (v := va_rf ((N a0 0).map ad)) C gcX5 inX5 (by decide) fl_Pa_12 ha0 rfl d_Pa_greaterDegree_1 ?_
  refine g_top (g_rf hnb1) ?_
  obtain ⟨r2, hc3, h⟩ := o_bn1 h
  refine g_V (pc := 4) (rest := []) C (k_Po_degree (xl X) hb1 hc3) sm_Po_degree ml_Pa_37 im_Po_degree se_Po_degree gcX6 rfl hb1 ⟨rfl, rfl, Nat.le_of_ble_eq_true rfl, Nat.le_of_ble_eq_true rfl⟩ ⟨Nat.zero_le _, Nat.zero_le _⟩ rfl rfl (Nat.le_of_ble_eq_true rfl) d_Pa_greaterDegree_4 [.int r2] rfl ?_
  refine g_aload_n (pc := 7) C d_Pa_greaterDegree_7 rfl 0 rfl ?_
  obtain ⟨b4, hnb4, hb4, h⟩ := o_rq h
  refine g_get (pc := 8) (k := 1) (v := va_rf ((N a0 1).map ad)) C gcX5 inX5 (by decide) fl_Pa_18 ha0 rfl d_Pa_greaterDegree_8 ?_
  refine g_top (g_rf hnb4) ?_
  obtain ⟨r5, hc6, h⟩ := o_bn1 h
  refine g_V (pc := 11) (rest := [.int r2]) C (k_Po_degree (xl X) hb4 hc6) sm_Po_degree ml_Pa_37 im_Po_degree se_Po_degree gcX6 rfl hb4 ⟨rfl, rfl, Nat.le_of_ble_eq_true rfl, Nat.le_of_ble_eq_true rfl⟩ ⟨Nat.zero_le _, Nat.zero_le _⟩ rfl rfl (Nat.le_of_ble_eq_true rfl) d_Pa_greaterDegree_11 [.int r5, .int r2] rfl ?_
  refine g_max (pc := 14) C ml_Pa_41 jd_max_s jd_Math_i jd_max_c ⟨Nat.le_of_ble_eq_true rfl, Nat.le_of_ble_eq_true rfl, Nat.zero_le _, Nat.zero_le _⟩ d_Pa_greaterDegree_14 ?_
  obtain rfl := o_ret h
  exact g_iret (pc := 17) C d_Pa_greaterDegree_17
set_option maxRecDepth 20000 in
theorem k_Pa_greaterDegree (l : Launch) {I : HI} {J : HJ} {N : HN} {a0 : Nat} {r : Int32} (ha0 : gk Tc nC a0 (0, 5)) (h : Pa_greaterDegree J N a0 = some r) : gM l y_Pa_greaterDegree c_Pa_greaterDegree 1 (some .int) rm_Pa_greaterDegree Tc nC I J N (fun ad => [.ref (ad a0)]) (I, J, N, fun _ => some (.int r)) :=
  g_meth (lv := fun ad => [(0, .ref (ad a0))]) (by decide) (fun _ => Nat.le_of_ble_eq_true rfl) (fun _ => rfl) (fun X ad C => g_lv [0] rfl (w_Pa_greaterDegree_0 C ha0 h))
theorem d_Pa_isFractionOf_0 : decode c_Pa_isFractionOf 0 = .ok (.iconst 0, 1) := by decide +kernel
theorem d_Pa_isFractionOf_1 : decode c_Pa_isFractionOf 1 = .ok (.istore_n 2, 1) := by decide +kernel
theorem d_Pa_isFractionOf_2 : decode c_Pa_isFractionOf 2 = .ok (.iload_n 2, 1) := by decide +kernel
theorem d_Pa_isFractionOf_3 : decode c_Pa_isFractionOf 3 = .ok (.bipush 12, 2) := by decide +kernel
theorem d_Pa_isFractionOf_5 : decode c_Pa_isFractionOf 5 = .ok (.if_icmp .gt 83, 3) := by decide +kernel
theorem d_Pa_isFractionOf_8 : decode c_Pa_isFractionOf 8 = .ok (.lconst 0, 1) := by decide +kernel
theorem d_Pa_isFractionOf_9 : decode c_Pa_isFractionOf 9 = .ok (.lstore_n 3, 1) := by decide +kernel
theorem d_Pa_isFractionOf_10 : decode c_Pa_isFractionOf 10 = .ok (.iconst 0, 1) := by decide +kernel
theorem d_Pa_isFractionOf_11 : decode c_Pa_isFractionOf 11 = .ok (.istore 5, 2) := by decide +kernel
theorem d_Pa_isFractionOf_13 : decode c_Pa_isFractionOf 13 = .ok (.iload 5, 2) := by decide +kernel
theorem d_Pa_isFractionOf_15 : decode c_Pa_isFractionOf 15 = .ok (.bipush 7, 2) := by decide +kernel
theorem d_Pa_isFractionOf_17 : decode c_Pa_isFractionOf 17 = .ok (.if_icmp .ge 57, 3) := by decide +kernel
theorem d_Pa_isFractionOf_20 : decode c_Pa_isFractionOf 20 = .ok (.lload_n 3, 1) := by decide +kernel
theorem d_Pa_isFractionOf_21 : decode c_Pa_isFractionOf 21 = .ok (.aload_n 0, 1) := by decide +kernel
theorem d_Pa_isFractionOf_22 : decode c_Pa_isFractionOf 22 = .ok (.getfield 12, 3) := by decide +kernel
theorem d_Pa_isFractionOf_25 : decode c_Pa_isFractionOf 25 = .ok (.iload 5, 2) := by decide +kernel
theorem d_Pa_isFractionOf_27 : decode c_Pa_isFractionOf 27 = .ok (.invokevirtual 21, 3) := by decide +kernel
theorem d_Pa_isFractionOf_30 : decode c_Pa_isFractionOf 30 = .ok (.aload_n 1, 1) := by decide +kernel
theorem d_Pa_isFractionOf_31 : decode c_Pa_isFractionOf 31 = .ok (.getfield 18, 3) := by decide +kernel
theorem d_Pa_isFractionOf_34 : decode c_Pa_isFractionOf 34 = .ok (.iload_n 2, 1) := by decide +kernel
theorem d_Pa_isFractionOf_35 : decode c_Pa_isFractionOf 35 = .ok (.iload 5, 2) := by decide +kernel
theorem d_Pa_isFractionOf_37 : decode c_Pa_isFractionOf 37 = .ok (.isub, 1) := by decide +kernel
theorem d_Pa_isFractionOf_38 : decode c_Pa_isFractionOf 38 = .ok (.invokevirtual 21, 3) := by decide +kernel
theorem d_Pa_isFractionOf_41 : decode c_Pa_isFractionOf 41 = .ok (.lmul, 1) := by decide +kernel
theorem d_Pa_isFractionOf_42 : decode c_Pa_isFractionOf 42 = .ok (.ladd, 1) := by decide +kernel
theorem d_Pa_isFractionOf_43 : decode c_Pa_isFractionOf 43 = .ok (.lstore_n 3, 1) := by decide +kernel
theorem d_Pa_isFractionOf_44 : decode c_Pa_isFractionOf 44 = .ok (.lload_n 3, 1) := by decide +kernel
theorem d_Pa_isFractionOf_45 : decode c_Pa_isFractionOf 45 = .ok (.aload_n 1, 1) := by decide +kernel
theorem d_Pa_isFractionOf_46 : decode c_Pa_isFractionOf 46 = .ok (.getfield 12, 3) := by decide +kernel
theorem d_Pa_isFractionOf_49 : decode c_Pa_isFractionOf 49 = .ok (.iload 5, 2) := by decide +kernel
theorem d_Pa_isFractionOf_51 : decode c_Pa_isFractionOf 51 = .ok (.invokevirtual 21, 3) := by decide +kernel
theorem d_Pa_isFractionOf_54 : decode c_Pa_isFractionOf 54 = .ok (.aload_n 0, 1) := by decide +kernel
theorem d_Pa_isFractionOf_55 : decode c_Pa_isFractionOf 55 = .ok (.getfield 18, 3) := by decide +kernel
theorem d_Pa_isFractionOf_58 : decode c_Pa_isFractionOf 58 = .ok (.iload_n 2, 1) := by decide +kernel
theorem d_Pa_isFractionOf_59 : decode c_Pa_isFractionOf 59 = .ok (.iload 5, 2) := by decide +kernel
theorem d_Pa_isFractionOf_61 : decode c_Pa_isFractionOf 61 = .ok (.isub, 1) := by decide +kernel
theorem d_Pa_isFractionOf_62 : decode c_Pa_isFractionOf 62 = .ok (.invokevirtual 21, 3) := by decide +kernel
theorem d_Pa_isFractionOf_65 : decode c_Pa_isFractionOf 65 = .ok (.lmul, 1) := by decide +kernel
theorem d_Pa_isFractionOf_66 : decode c_Pa_isFractionOf 66 = .ok (.lsub, 1) := by decide +kernel
theorem d_Pa_isFractionOf_67 : decode c_Pa_isFractionOf 67 = .ok (.lstore_n 3, 1) := by decide +kernel
theorem d_Pa_isFractionOf_68 : decode c_Pa_isFractionOf 68 = .ok (.iinc 5 1, 3) := by decide +kernel
theorem d_Pa_isFractionOf_71 : decode c_Pa_isFractionOf 71 = .ok (.goto (-58), 3) := by decide +kernel
theorem d_Pa_isFractionOf_74 : decode c_Pa_isFractionOf 74 = .ok (.lload_n 3, 1) := by decide +kernel
theorem d_Pa_isFractionOf_75 : decode c_Pa_isFractionOf 75 = .ok (.lconst 0, 1) := by decide +kernel
theorem d_Pa_isFractionOf_76 : decode c_Pa_isFractionOf 76 = .ok (.lcmp, 1) := by decide +kernel
theorem d_Pa_isFractionOf_77 : decode c_Pa_isFractionOf 77 = .ok (.ifCond .eq 5, 3) := by decide +kernel
theorem d_Pa_isFractionOf_80 : decode c_Pa_isFractionOf 80 = .ok (.iconst 0, 1) := by decide +kernel
theorem d_Pa_isFractionOf_81 : decode c_Pa_isFractionOf 81 = .ok (.ireturn, 1) := by decide +kernel
theorem d_Pa_isFractionOf_82 : decode c_Pa_isFractionOf 82 = .ok (.iinc 2 1, 3) := by decide +kernel
theorem d_Pa_isFractionOf_85 : decode c_Pa_isFractionOf 85 = .ok (.goto (-83), 3) := by decide +kernel
theorem d_Pa_isFractionOf_88 : decode c_Pa_isFractionOf 88 = .ok (.iconst 1, 1) := by decide +kernel
theorem d_Pa_isFractionOf_89 : decode c_Pa_isFractionOf 89 = .ok (.ireturn, 1) := by decide +kernel
set_option maxRecDepth 20000 in
theorem w_Pa_isFractionOf_13b {X : HX} {ad : Nat → Nat} {I : HI} {J : HJ} {N : HN} {r : Int32} {k2 : Int32 → Option (Int32)} {k13 : Int32 → Int64 → Int32 → Option (Int32)} {a0 : Nat} {a1 : Nat} {x2 : Int32} {x3 : Int64} {x5 : Int32} (C : Cx X c_Pa_isFractionOf RX5 6 (some .boolean) rm_Pa_isFractionOf) (ha0 : gk Tc nC a0 (0, 5)) (ha1 : gk Tc nC a1 (0, 5))
    (hk2 : ∀ (x2 : Int32), k2 x2 = some r → G Tc X ad nC 0 0 I J N (gE X Tc ad nC (I, J, N, fun _ => some (.int r))) 2 6 [(0, .ref (ad a0)), (1, .ref (ad a1)), (2, .int x2)] [])
    (hk13 : ∀ (x2 : Int32) (x3 : Int64) (x5 : Int32), k13 x2 x3 x5 = some r → G Tc X ad nC 0 0 I J N (gE X Tc ad nC (I, J, N, fun _ => some (.int r))) 13 6 [(0, .ref (ad a0)), (1, .ref (ad a1)), (2, .int x2), (3, .long x3), (5, .int x5)] [])
    (h : Pa_isFractionOf_13b J N a0 a1 k2 k13 x2 x3 x5 = some r) : G Tc X ad nC 0 0 I J N (gE X Tc ad nC (I, J, N, fun _ => some (.int r))) 13 6 [(0, .ref (ad a0)), (1, .ref (ad a1)), (2, .int x2), (3, .long x3), (5, .int x5)] [] := by
  refine g_iload (pc := 13) C d_Pa_isFractionOf_13 4 rfl ?_
  refine g_bipush (pc := 15) C (7 : Int32) d_Pa_isFractionOf_15 (by decide) ?_
  refine g_icmp_ge (pc := 17) C 74 d_Pa_isFractionOf_17 rfl (fun e1 => ?_) (fun e1 => ?_)
  · have h := o_pos e1 h
    refine g_lload_n (pc := 74) C d_Pa_isFractionOf_74 rfl 3 rfl ?_
    refine g_lconst (pc := 75) C (0 : Int64) d_Pa_isFractionOf_75 (by decide) ?_
    refine g_lcmp_eq (pc := 76) C 82 d_Pa_isFractionOf_76 d_Pa_isFractionOf_77 rfl (fun e2 => ?_) (fun e2 => ?_)
    · have h := o_pos e2 h
      refine g_iinc (pc := 82) (q := 2) (lv' := [(2, .int (x2 + 1)), (0, .ref (ad a0)), (1, .ref (ad a1)), (3, .long x3), (5, .int x5)]) C d_Pa_isFractionOf_82 rfl rfl (by decide) rfl ?_
      refine g_goto (pc := 85) C 2 d_Pa_isFractionOf_85 rfl ?_
      refine g_lv [1, 2, 0] rfl ?_
      exact hk2 _ h
    · have h := o_neg e2 h
      refine g_iconst (pc := 80) C (0 : Int32) d_Pa_isFractionOf_80 (by decide) ?_
      obtain rfl := o_ret h
      exact g_zret (pc := 81) C zn_0 d_Pa_isFractionOf_81
  · have h := o_neg e1 h
    refine g_lload_n (pc := 20) C d_Pa_isFractionOf_20 rfl 3 rfl ?_
    refine g_aload_n (pc := 21) C d_Pa_isFractionOf_21 rfl 0 rfl ?_
    obtain ⟨b3, hnb3, hb3, h⟩ := o_rq h
    refine g_get (pc := 22) (k := 0) (v := va_rf ((N a0 0).map ad)) C gcX5 inX5 (by decide) fl_Pa_12 ha0 rfl d_Pa_isFractionOf_22 ?_
    refine g_top (g_rf hnb3) ?_
    refine g_iload (pc := 25) C d_Pa_isFractionOf_25 4 rfl ?_
    obtain ⟨r4, hc5, h⟩ := o_bn1 h
    refine g_V (pc := 27) (rest := [.long x3]) C (k_Po_at (xl X) hb3 hc5) sm_Po_at ml_Pa_21 im_Po_at se_Po_at gcX6 rfl hb3 ⟨rfl, rfl, Nat.le_of_ble_eq_true rfl, Nat.le_of_ble_eq_true rfl⟩ ⟨Nat.zero_le _, Nat.zero_le _⟩ rfl rfl (Nat.le_of_ble_eq_true rfl) d_Pa_isFractionOf_27 [.long r4, .long x3] rfl ?_
    refine g_aload_n (pc := 30) C d_Pa_isFractionOf_30 rfl 1 rfl ?_
    obtain ⟨b6, hnb6, hb6, h⟩ := o_rq h
    refine g_get (pc := 31) (k := 1) (v := va_rf ((N a1 1).map ad)) C gcX5 inX5 (by decide) fl_Pa_18 ha1 rfl d_Pa_isFractionOf_31 ?_
    refine g_top (g_rf hnb6) ?_
    refine g_iload_n (pc := 34) C d_Pa_isFractionOf_34 rfl 2 rfl ?_
    refine g_iload (pc := 35) C d_Pa_isFractionOf_35 4 rfl ?_
    refine g_isub (pc := 37) C d_Pa_isFractionOf_37 ?_
    obtain ⟨r7, hc8, h⟩ := o_bn1 h
    refine g_V (pc := 38) (rest := [.long r4, .long x3]) C (k_Po_at (xl X) hb6 hc8) sm_Po_at ml_Pa_21 im_Po_at se_Po_at gcX6 rfl hb6 ⟨rfl, rfl, Nat.le_of_ble_eq_true rfl, Nat.le_of_ble_eq_true rfl⟩ ⟨Nat.zero_le _, Nat.zero_le _⟩ rfl rfl (Nat.le_of_ble_eq_true rfl) d_Pa_isFractionOf_38 [.long r7, .long r4, .long x3] rfl ?_
    refine g_lmul (pc := 41) C d_Pa_isFractionOf_41 ?_
    refine g_ladd (pc := 42) C d_Pa_isFractionOf_42 ?_
    obtain ⟨v9, ev9, h⟩ := o_bd h
    refine g_topl ev9 ?_
    refine g_lstore_n (pc := 43) (lv' := [(3, .long v9), (0, .ref (ad a0)), (1, .ref (ad a1)), (2, .int x2), (5, .int x5)]) C d_Pa_isFractionOf_43 rfl (by decide) rfl ?_
    refine g_lload_n (pc := 44) C d_Pa_isFractionOf_44 rfl 0 rfl ?_
    refine g_aload_n (pc := 45) C d_Pa_isFractionOf_45 rfl 2 rfl ?_
    obtain ⟨b10, hnb10, hb10, h⟩ := o_rq h
    refine g_get (pc := 46) (k := 0) (v := va_rf ((N a1 0).map ad)) C gcX5 inX5 (by decide) fl_Pa_12 ha1 rfl d_Pa_isFractionOf_46 ?_
    refine g_top (g_rf hnb10) ?_
    refine g_iload (pc := 49) C d_Pa_isFractionOf_49 4 rfl ?_
    obtain ⟨r11, hc12, h⟩ := o_bn1 h
    refine g_V (pc := 51) (rest := [.long v9]) C (k_Po_at (xl X) hb10 hc12) sm_Po_at ml_Pa_21 im_Po_at se_Po_at gcX6 rfl hb10 ⟨rfl, rfl, Nat.le_of_ble_eq_true rfl, Nat.le_of_ble_eq_true rfl⟩ ⟨Nat.zero_le _, Nat.zero_le _⟩ rfl rfl (Nat.le_of_ble_eq_true rfl) d_Pa_isFractionOf_51 [.long r11, .long v9] rfl ?_
    refine g_aload_n (pc := 54) C d_Pa_isFractionOf_54 rfl 1 rfl ?_
    obtain ⟨b13, hnb13, hb13, h⟩ := o_rq h
    refine g_get (pc := 55) (k := 1) (v := va_rf ((N a0 1).map ad)) C gcX5 inX5 (by decide) fl_Pa_18 ha0 rfl d_Pa_isFractionOf_55 ?_
    refine g_top (g_rf hnb13) ?_
    refine g_iload_n (pc := 58) C d_Pa_isFractionOf_58 rfl 3 rfl ?_
    refine g_iload (pc := 59) C d_Pa_isFractionOf_59 4 rfl ?_
    refine g_isub (pc := 61) C d_Pa_isFractionOf_61 ?_
    obtain ⟨r14, hc15, h⟩ := o_bn1 h
    refine g_V (pc := 62) (rest := [.long r11, .long v9]) C (k_Po_at (xl X) hb13 hc15) sm_Po_at ml_Pa_21 im_Po_at se_Po_at gcX6 rfl hb13 ⟨rfl, rfl, Nat.le_of_ble_eq_true rfl, Nat.le_of_ble_eq_true rfl⟩ ⟨Nat.zero_le _, Nat.zero_le _⟩ rfl rfl (Nat.le_of_ble_eq_true rfl) d_Pa_isFractionOf_62 [.long r14, .long r11, .long v9] rfl ?_
    refine g_lmul (pc := 65) C d_Pa_isFractionOf_65 ?_
    refine g_lsub (pc := 66) C d_Pa_isFractionOf_66 ?_
    obtain ⟨v16, ev16, h⟩ := o_bd h
    refine g_topl ev16 ?_
    refine g_lstore_n (pc := 67) (lv' := [(3, .long v16), (0, .ref (ad a0)), (1, .ref (ad a1)), (2, .int x2), (5, .int x5)]) C d_Pa_isFractionOf_67 rfl (by decide) rfl ?_
    refine g_iinc (pc := 68) (q := 4) (lv' := [(5, .int (x5 + 1)), (3, .long v16), (0, .ref (ad a0)), (1, .ref (ad a1)), (2, .int x2)]) C d_Pa_isFractionOf_68 rfl rfl (by decide) rfl ?_
    refine g_goto (pc := 71) C 13 d_Pa_isFractionOf_71 rfl ?_
    refine g_lv [2, 3, 4, 1, 0] rfl ?_
    exact hk13 _ _ _ h
set_option maxRecDepth 20000 in
theorem w_Pa_isFractionOf_13 {X : HX} {ad : Nat → Nat} {I : HI} {J : HJ} {N : HN} {r : Int32} {k2 : Int32 → Option (Int32)} {a0 : Nat} {a1 : Nat} (C : Cx X c_Pa_isFractionOf RX5 6 (some .boolean) rm_Pa_isFractionOf) (ha0 : gk Tc nC a0 (0, 5)) (ha1 : gk Tc nC a1 (0, 5))
    (hk2 : ∀ (x2 : Int32), k2 x2 = some r → G Tc X ad nC 0 0 I J N (gE X Tc ad nC (I, J, N, fun _ => some (.int r))) 2 6 [(0, .ref (ad a0)), (1, .ref (ad a1)), (2, .int x2)] []) : ∀ (n : Nat) (x2 : Int32) (x3 : Int64) (x5 : Int32), Pa_isFractionOf_13 J N a0 a1 k2 n x2 x3 x5 = some r → G Tc X ad nC 0 0 I J N (gE X Tc ad nC (I, J, N, fun _ => some (.int r))) 13 6 [(0, .ref (ad a0)), (1, .ref (ad a1)), (2, .int x2), (3, .long x3), (5, .int x5)] [] := by
  intro n
  induction n with
  | zero => intro x2 x3 x5 h; cases h
  | succ n ih => intro x2 x3 x5 h; exact w_Pa_isFractionOf_13b C ha0 ha1 hk2 ih h
set_option maxRecDepth 20000 in
theorem w_Pa_isFractionOf_2b {X : HX} {ad : Nat → Nat} {I : HI} {J : HJ} {N : HN} {r : Int32} {k2 : Int32 → Option (Int32)} {a0 : Nat} {a1 : Nat} {x2 : Int32} (C : Cx X c_Pa_isFractionOf RX5 6 (some .boolean) rm_Pa_isFractionOf) (ha0 : gk Tc nC a0 (0, 5)) (ha1 : gk Tc nC a1 (0, 5))
    (hk2 : ∀ (x2 : Int32), k2 x2 = some r → G Tc X ad nC 0 0 I J N (gE X Tc ad nC (I, J, N, fun _ => some (.int r))) 2 6 [(0, .ref (ad a0)), (1, .ref (ad a1)), (2, .int x2)] [])
    (h : Pa_isFractionOf_2b J N a0 a1 k2 x2 = some r) : G Tc X ad nC 0 0 I J N (gE X Tc ad nC (I, J, N, fun _ => some (.int r))) 2 6 [(0, .ref (ad a0)), (1, .ref (ad a1)), (2, .int x2)] [] := by
  refine g_iload_n (pc := 2) C d_Pa_isFractionOf_2 rfl 2 rfl ?_
  refine g_bipush (pc := 3) C (12 : Int32) d_Pa_isFractionOf_3 (by decide) ?_
  refine g_icmp_gt (pc := 5) C 88 d_Pa_isFractionOf_5 rfl (fun e1 => ?_) (fun e1 => ?_)
  · have h := o_pos e1 h
    refine g_iconst (pc := 88) C (1 : Int32) d_Pa_isFractionOf_88 (by decide) ?_
    obtain rfl := o_ret h
    exact g_zret (pc := 89) C zn_1 d_Pa_isFractionOf_89
  · have h := o_neg e1 h
    refine g_lconst (pc := 8) C (0 : Int64) d_Pa_isFractionOf_8 (by decide) ?_
    refine g_lstore_n (pc := 9) (lv' := [(3, .long (0 : Int64)), (0, .ref (ad a0)), (1, .ref (ad a1)), (2, .int x2)]) C d_Pa_isFractionOf_9 rfl (by decide) rfl ?_
    refine g_iconst (pc := 10) C (0 : Int32) d_Pa_isFractionOf_10 (by decide) ?_
    refine g_istore (pc := 11) (lv' := [(5, .int (0 : Int32)), (3, .long (0 : Int64)), (0, .ref (ad a0)), (1, .ref (ad a1)), (2, .int x2)]) C d_Pa_isFractionOf_11 (by decide) rfl ?_
    refine g_lv [2, 3, 4, 1, 0] rfl ?_
    exact w_Pa_isFractionOf_13 C ha0 ha1 hk2 _ _ _ _ h
set_option maxRecDepth 20000 in
theorem w_Pa_isFractionOf_2 {X : HX} {ad : Nat → Nat} {I : HI} {J : HJ} {N : HN} {r : Int32} {a0 : Nat} {a1 : Nat} (C : Cx X c_Pa_isFractionOf RX5 6 (some .boolean) rm_Pa_isFractionOf) (ha0 : gk Tc nC a0 (0, 5)) (ha1 : gk Tc nC a1 (0, 5)) : ∀ (n : Nat) (x2 : Int32), Pa_isFractionOf_2 J N a0 a1 n x2 = some r → G Tc X ad nC 0 0 I J N (gE X Tc ad nC (I, J, N, fun _ => some (.int r))) 2 6 [(0, .ref (ad a0)), (1, .ref (ad a1)), (2, .int x2)] [] := by
  intro n
  induction n with
  | zero => intro x2 h; cases h
  | succ n ih => intro x2 h; exact w_Pa_isFractionOf_2b C ha0 ha1 ih h
set_option maxRecDepth 20000 in
theorem w_Pa_isFractionOf_0 {X : HX} {ad : Nat → Nat} {I : HI} {J : HJ} {N : HN} {r : Int32} {a0 : Nat} {a1 : Nat} (C : Cx X c_Pa_isFractionOf RX5 6 (some .boolean) rm_Pa_isFractionOf) (ha0 : gk Tc nC a0 (0, 5)) (ha1 : gk Tc nC a1 (0, 5))
    (h : Pa_isFractionOf_0 J N a0 a1 = some r) : G Tc X ad nC 0 0 I J N (gE X Tc ad nC (I, J, N, fun _ => some (.int r))) 0 6 [(0, .ref (ad a0)), (1, .ref (ad a1))] [] := by
  refine g_iconst (pc := 0) C (0 : Int32) d_Pa_isFractionOf_0 (by decide) ?_
  refine g_istore_n (pc := 1) (lv' := [(2, .int (0 : Int32)), (0, .ref (ad a0)), (1, .ref (ad a1))]) C d_Pa_isFractionOf_1 rfl (by decide) rfl ?_
  refine g_lv [1, 2, 0] rfl ?_
  exact w_Pa_isFractionOf_2 C ha0 ha1 _ _ h
set_option maxRecDepth 20000 in
theorem k_Pa_isFractionOf (l : Launch) {I : HI} {J : HJ} {N : HN} {a0 : Nat} {a1 : Nat} {r : Int32} (ha0 : gk Tc nC a0 (0, 5)) (ha1 : gk Tc nC a1 (0, 5)) (h : Pa_isFractionOf J N a0 a1 = some r) : gM l y_Pa_isFractionOf c_Pa_isFractionOf 6 (some .boolean) rm_Pa_isFractionOf Tc nC I J N (fun ad => [.ref (ad a0), .ref (ad a1)]) (I, J, N, fun _ => some (.int r)) :=
  g_meth (lv := fun ad => [(0, .ref (ad a0)), (1, .ref (ad a1))]) (by decide) (fun _ => Nat.le_of_ble_eq_true rfl) (fun _ => rfl) (fun X ad C => g_lv [0, 1] rfl (w_Pa_isFractionOf_0 C ha0 ha1 h))
theorem d_Po_multiplyBy_0 : decode c_Po_multiplyBy 0 = .ok (.iconst 0, 1) := by decide +kernel
theorem d_Po_multiplyBy_1 : decode c_Po_multiplyBy 1 = .ok (.istore_n 3, 1) := by decide +kernel
theorem d_Po_multiplyBy_2 : decode c_Po_multiplyBy 2 = .ok (.iload_n 3, 1) := by decide +kernel
theorem d_Po_multiplyBy_3 : decode c_Po_multiplyBy 3 = .ok (.bipush 7, 2) := by decide +kernel
theorem d_Po_multiplyBy_5 : decode c_Po_multiplyBy 5 = .ok (.if_icmp .ge 19, 3) := by decide +kernel
theorem d_Po_multiplyBy_8 : decode c_Po_multiplyBy 8 = .ok (.aload_n 0, 1) := by decide +kernel
theorem d_Po_multiplyBy_9 : decode c_Po_multiplyBy 9 = .ok (.getfield 9, 3) := by decide +kernel
theorem d_Po_multiplyBy_12 : decode c_Po_multiplyBy 12 = .ok (.iload_n 3, 1) := by decide +kernel
theorem d_Po_multiplyBy_13 : decode c_Po_multiplyBy 13 = .ok (.dup2, 1) := by decide +kernel
theorem d_Po_multiplyBy_14 : decode c_Po_multiplyBy 14 = .ok (.laload, 1) := by decide +kernel
theorem d_Po_multiplyBy_15 : decode c_Po_multiplyBy 15 = .ok (.lload_n 1, 1) := by decide +kernel
theorem d_Po_multiplyBy_16 : decode c_Po_multiplyBy 16 = .ok (.lmul, 1) := by decide +kernel
theorem d_Po_multiplyBy_17 : decode c_Po_multiplyBy 17 = .ok (.lastore, 1) := by decide +kernel
theorem d_Po_multiplyBy_18 : decode c_Po_multiplyBy 18 = .ok (.iinc 3 1, 3) := by decide +kernel
theorem d_Po_multiplyBy_21 : decode c_Po_multiplyBy 21 = .ok (.goto (-19), 3) := by decide +kernel
theorem d_Po_multiplyBy_24 : decode c_Po_multiplyBy 24 = .ok (.return_, 1) := by decide +kernel
set_option maxRecDepth 20000 in
theorem w_Po_multiplyBy_2b {X : HX} {ad : Nat → Nat} {I : HI} {J : HJ} {N : HN} {r : HJ} {k2 : HJ → Int32 → Option (HJ)} {a0 : Nat} {p1 : Int64} {x3 : Int32} (C : Cx X c_Po_multiplyBy RX6 4 none rm_Po_multiplyBy) (ha0 : gk Tc nC a0 (0, 6))
    (hk2 : ∀ (J : HJ) (x3 : Int32), k2 J x3 = some r → G Tc X ad nC 0 0 I J N (gE X Tc ad nC (I, r, N, fun _ => none)) 2 4 [(0, .ref (ad a0)), (1, .long p1), (3, .int x3)] [])
    (h : Po_multiplyBy_2b N a0 p1 k2 J x3 = some r) : G Tc X ad nC 0 0 I J N (gE X Tc ad nC (I, r, N, fun _ => none)) 2 4 [(0, .ref (ad a0)), (1, .long p1), (3, .int x3)] [] := by
  refine g_iload_n (pc := 2) C d_Po_multiplyBy_2 rfl 2 rfl ?_
  refine g_bipush (pc := 3) C (7 : Int32) d_Po_multiplyBy_3 (by decide) ?_
  refine g_icmp_ge (pc := 5) C 24 d_Po_multiplyBy_5 rfl (fun e1 => ?_) (fun e1 => ?_)
  · have h := o_pos e1 h
    obtain rfl := o_ret h
    exact g_vret (pc := 24) C d_Po_multiplyBy_24
  · have h := o_neg e1 h
    refine g_aload_n (pc := 8) C d_Po_multiplyBy_8 rfl 0 rfl ?_
    obtain ⟨b2, hnb2, hb2, h⟩ := o_ra h
    refine g_get (pc := 9) (k := 0) (v := va_rf ((N a0 0).map ad)) C gcX6 inX6 (by decide) fl_Po_9 ha0 rfl d_Po_multiplyBy_9 ?_
    refine g_top (g_rf hnb2) ?_
    refine g_iload_n (pc := 12) C d_Po_multiplyBy_12 rfl 2 rfl ?_
    refine g_dup2 (pc := 13) C d_Po_multiplyBy_13 rfl rfl ?_
    obtain ⟨hi3, h⟩ := o_gd h
    refine g_lald (pc := 14) C hb2 hi3 d_Po_multiplyBy_14 ?_
    refine g_lload_n (pc := 15) C d_Po_multiplyBy_15 rfl 1 rfl ?_
    refine g_lmul (pc := 16) C d_Po_multiplyBy_16 ?_
    obtain ⟨hi4, h⟩ := o_gd h
    refine g_last (pc := 17) C hb2 hi4 d_Po_multiplyBy_17 ?_
    obtain ⟨J5, eJ5, h⟩ := o_bd h
    rw [← eJ5]
    refine g_iinc (pc := 18) (q := 2) (lv' := [(3, .int (x3 + 1)), (0, .ref (ad a0)), (1, .long p1)]) C d_Po_multiplyBy_18 rfl rfl (by decide) rfl ?_
    refine g_goto (pc := 21) C 2 d_Po_multiplyBy_21 rfl ?_
    refine g_lv [1, 2, 0] rfl ?_
    exact hk2 _ _ h
set_option maxRecDepth 20000 in
theorem w_Po_multiplyBy_2 {X : HX} {ad : Nat → Nat} {I : HI} {N : HN} {r : HJ} {a0 : Nat} {p1 : Int64} (C : Cx X c_Po_multiplyBy RX6 4 none rm_Po_multiplyBy) (ha0 : gk Tc nC a0 (0, 6)) : ∀ (n : Nat) (J : HJ) (x3 : Int32), Po_multiplyBy_2 N a0 p1 n J x3 = some r → G Tc X ad nC 0 0 I J N (gE X Tc ad nC (I, r, N, fun _ => none)) 2 4 [(0, .ref (ad a0)), (1, .long p1), (3, .int x3)] [] := by
  intro n
  induction n with
  | zero => intro J x3 h; cases h
  | succ n ih => intro J x3 h; exact w_Po_multiplyBy_2b C ha0 ih h
set_option maxRecDepth 20000 in
theorem w_Po_multiplyBy_0 {X : HX} {ad : Nat → Nat} {I : HI} {J : HJ} {N : HN} {r : HJ} {a0 : Nat} {p1 : Int64} (C : Cx X c_Po_multiplyBy RX6 4 none rm_Po_multiplyBy) (ha0 : gk Tc nC a0 (0, 6))
    (h : Po_multiplyBy_0 N a0 p1 J = some r) : G Tc X ad nC 0 0 I J N (gE X Tc ad nC (I, r, N, fun _ => none)) 0 4 [(0, .ref (ad a0)), (1, .long p1)] [] := by
  refine g_iconst (pc := 0) C (0 : Int32) d_Po_multiplyBy_0 (by decide) ?_
  refine g_istore_n (pc := 1) (lv' := [(3, .int (0 : Int32)), (0, .ref (ad a0)), (1, .long p1)]) C d_Po_multiplyBy_1 rfl (by decide) rfl ?_
  refine g_lv [1, 2, 0] rfl ?_
  exact w_Po_multiplyBy_2 C ha0 _ _ _ h
set_option maxRecDepth 20000 in
theorem k_Po_multiplyBy (l : Launch) {I : HI} {J : HJ} {N : HN} {a0 : Nat} {p1 : Int64} {r : HJ} (ha0 : gk Tc nC a0 (0, 6)) (h : Po_multiplyBy N a0 p1 J = some r) : gM l y_Po_multiplyBy c_Po_multiplyBy 4 none rm_Po_multiplyBy Tc nC I J N (fun ad => [.ref (ad a0), .long p1]) (I, r, N, fun _ => none) :=
  g_meth (lv := fun ad => [(0, .ref (ad a0)), (1, .long p1)]) (by decide) (fun _ => Nat.le_of_ble_eq_true rfl) (fun _ => rfl) (fun X ad C => g_lv [0, 1] rfl (w_Po_multiplyBy_0 C ha0 h))
theorem d_Pa_goOn_0 : decode c_Pa_goOn 0 = .ok (.aload_n 0, 1) := by decide +kernel
theorem d_Pa_goOn_1 : decode c_Pa_goOn 1 = .ok (.getfield 12, 3) := by decide +kernel
theorem d_Pa_goOn_4 : decode c_Pa_goOn 4 = .ok (.aload_n 1, 1) := by decide +kernel
theorem d_Pa_goOn_5 : decode c_Pa_goOn 5 = .ok (.getfield 58, 3) := by decide +kernel
theorem d_Pa_goOn_8 : decode c_Pa_goOn 8 = .ok (.invokevirtual 63, 3) := by decide +kernel
theorem d_Pa_goOn_11 : decode c_Pa_goOn 11 = .ok (.iconst 0, 1) := by decide +kernel
theorem d_Pa_goOn_12 : decode c_Pa_goOn 12 = .ok (.istore_n 3, 1) := by decide +kernel
theorem d_Pa_goOn_13 : decode c_Pa_goOn 13 = .ok (.iload_n 3, 1) := by decide +kernel
theorem d_Pa_goOn_14 : decode c_Pa_goOn 14 = .ok (.bipush 7, 2) := by decide +kernel
theorem d_Pa_goOn_16 : decode c_Pa_goOn 16 = .ok (.if_icmp .ge 41, 3) := by decide +kernel
theorem d_Pa_goOn_19 : decode c_Pa_goOn 19 = .ok (.aload_n 0, 1) := by decide +kernel
theorem d_Pa_goOn_20 : decode c_Pa_goOn 20 = .ok (.getfield 12, 3) := by decide +kernel
theorem d_Pa_goOn_23 : decode c_Pa_goOn 23 = .ok (.iload_n 3, 1) := by decide +kernel
theorem d_Pa_goOn_24 : decode c_Pa_goOn 24 = .ok (.aload_n 0, 1) := by decide +kernel
theorem d_Pa_goOn_25 : decode c_Pa_goOn 25 = .ok (.getfield 12, 3) := by decide +kernel
theorem d_Pa_goOn_28 : decode c_Pa_goOn 28 = .ok (.iload_n 3, 1) := by decide +kernel
theorem d_Pa_goOn_29 : decode c_Pa_goOn 29 = .ok (.invokevirtual 21, 3) := by decide +kernel
theorem d_Pa_goOn_32 : decode c_Pa_goOn 32 = .ok (.aload_n 1, 1) := by decide +kernel
theorem d_Pa_goOn_33 : decode c_Pa_goOn 33 = .ok (.getfield 66, 3) := by decide +kernel
theorem d_Pa_goOn_36 : decode c_Pa_goOn 36 = .ok (.aload_n 0, 1) := by decide +kernel
theorem d_Pa_goOn_37 : decode c_Pa_goOn 37 = .ok (.getfield 18, 3) := by decide +kernel
theorem d_Pa_goOn_40 : decode c_Pa_goOn 40 = .ok (.iload_n 3, 1) := by decide +kernel
theorem d_Pa_goOn_41 : decode c_Pa_goOn 41 = .ok (.iload_n 2, 1) := by decide +kernel
theorem d_Pa_goOn_42 : decode c_Pa_goOn 42 = .ok (.isub, 1) := by decide +kernel
theorem d_Pa_goOn_43 : decode c_Pa_goOn 43 = .ok (.invokevirtual 21, 3) := by decide +kernel
theorem d_Pa_goOn_46 : decode c_Pa_goOn 46 = .ok (.lmul, 1) := by decide +kernel
theorem d_Pa_goOn_47 : decode c_Pa_goOn 47 = .ok (.lsub, 1) := by decide +kernel
theorem d_Pa_goOn_48 : decode c_Pa_goOn 48 = .ok (.invokevirtual 25, 3) := by decide +kernel
theorem d_Pa_goOn_51 : decode c_Pa_goOn 51 = .ok (.iinc 3 1, 3) := by decide +kernel
theorem d_Pa_goOn_54 : decode c_Pa_goOn 54 = .ok (.goto (-41), 3) := by decide +kernel
theorem d_Pa_goOn_57 : decode c_Pa_goOn 57 = .ok (.aload_n 0, 1) := by decide +kernel
theorem d_Pa_goOn_58 : decode c_Pa_goOn 58 = .ok (.getfield 18, 3) := by decide +kernel
theorem d_Pa_goOn_61 : decode c_Pa_goOn 61 = .ok (.aload_n 1, 1) := by decide +kernel
theorem d_Pa_goOn_62 : decode c_Pa_goOn 62 = .ok (.getfield 58, 3) := by decide +kernel
theorem d_Pa_goOn_65 : decode c_Pa_goOn 65 = .ok (.invokevirtual 63, 3) := by decide +kernel
theorem d_Pa_goOn_68 : decode c_Pa_goOn 68 = .ok (.aload_n 0, 1) := by decide +kernel
theorem d_Pa_goOn_69 : decode c_Pa_goOn 69 = .ok (.invokevirtual 68, 3) := by decide +kernel
theorem d_Pa_goOn_72 : decode c_Pa_goOn 72 = .ok (.return_, 1) := by decide +kernel
set_option maxRecDepth 20000 in
theorem w_Pa_goOn_13b {X : HX} {ad : Nat → Nat} {I : HI} {J : HJ} {N : HN} {r : HJ × HN} {k13 : HJ → HN → Int32 → Option (HJ × HN)} {a0 : Nat} {a1 : Nat} {p2 : Int32} {x3 : Int32} (C : Cx X c_Pa_goOn RX5 4 none rm_Pa_goOn) (ha0 : gk Tc nC a0 (0, 5)) (ha1 : gk Tc nC a1 (0, 2))
    (hk13 : ∀ (J : HJ) (N : HN) (x3 : Int32), k13 J N x3 = some r → G Tc X ad nC 0 0 I J N (gE X Tc ad nC (I, r.1, r.2, fun _ => none)) 13 4 [(0, .ref (ad a0)), (1, .ref (ad a1)), (2, .int p2), (3, .int x3)] [])
    (h : Pa_goOn_13b a0 a1 p2 k13 J N x3 = some r) : G Tc X ad nC 0 0 I J N (gE X Tc ad nC (I, r.1, r.2, fun _ => none)) 13 4 [(0, .ref (ad a0)), (1, .ref (ad a1)), (2, .int p2), (3, .int x3)] [] := by
  refine g_iload_n (pc := 13) C d_Pa_goOn_13 rfl 3 rfl ?_
  refine g_bipush (pc := 14) C (7 : Int32) d_Pa_goOn_14 (by decide) ?_
  refine g_icmp_ge (pc := 16) C 57 d_Pa_goOn_16 rfl (fun e1 => ?_) (fun e1 => ?_)
  · have h := o_pos e1 h
    refine g_aload_n (pc := 57) C d_Pa_goOn_57 rfl 0 rfl ?_
    obtain ⟨b2, hnb2, hb2, h⟩ := o_rq h
    refine g_get (pc := 58) (k := 1) (v := va_rf ((N a0 1).map ad)) C gcX5 inX5 (by decide) fl_Pa_18 ha0 rfl d_Pa_goOn_58 ?_
    refine g_top (g_rf hnb2) ?_
    refine g_aload_n (pc := 61) C d_Pa_goOn_61 rfl 1 rfl ?_
    refine g_getN (pc := 62) (k := 1) (v := .long (J a1 1)) C gcX2 inX2 (by decide) fl_Pa_58 ha1 rfl d_Pa_goOn_62 ?_
    obtain ⟨J3, hc4, h⟩ := o_bn1 h
    refine g_V (pc := 65) (rest := []) C (k_Po_multiplyBy (xl X) hb2 hc4) sm_Po_multiplyBy ml_Pa_63 im_Po_multiplyBy se_Po_multiplyBy gcX6 rfl hb2 ⟨rfl, rfl, Nat.le_of_ble_eq_true rfl, Nat.le_of_ble_eq_true rfl⟩ ⟨Nat.zero_le _, Nat.zero_le _⟩ rfl rfl (Nat.le_of_ble_eq_true rfl) d_Pa_goOn_65 [] rfl ?_
    refine g_aload_n (pc := 68) C d_Pa_goOn_68 rfl 0 rfl ?_
    obtain ⟨N5, hc6, h⟩ := o_bn1 h
    refine g_V (pc := 69) (rest := []) C (k_Pa_swap (xl X) ha0 hc6) sm_Pa_swap ml_Pa_68 im_Pa_swap se_Pa_swap gcX5 rfl ha0 ⟨rfl, rfl, Nat.le_of_ble_eq_true rfl, Nat.le_of_ble_eq_true rfl⟩ ⟨Nat.zero_le _, Nat.zero_le _⟩ rfl rfl (Nat.le_of_ble_eq_true rfl) d_Pa_goOn_69 [] rfl ?_
    obtain rfl := o_ret h
    exact g_vret (pc := 72) C d_Pa_goOn_72
  · have h := o_neg e1 h
    refine g_aload_n (pc := 19) C d_Pa_goOn_19 rfl 0 rfl ?_
    obtain ⟨b7, hnb7, hb7, h⟩ := o_rq h
    refine g_get (pc := 20) (k := 0) (v := va_rf ((N a0 0).map ad)) C gcX5 inX5 (by decide) fl_Pa_12 ha0 rfl d_Pa_goOn_20 ?_
    refine g_top (g_rf hnb7) ?_
    refine g_iload_n (pc := 23) C d_Pa_goOn_23 rfl 3 rfl ?_
    refine g_aload_n (pc := 24) C d_Pa_goOn_24 rfl 0 rfl ?_
    obtain ⟨b8, hnb8, hb8, h⟩ := o_rq h
    refine g_get (pc := 25) (k := 0) (v := va_rf ((N a0 0).map ad)) C gcX5 inX5 (by decide) fl_Pa_12 ha0 rfl d_Pa_goOn_25 ?_
    refine g_top (g_rf hnb8) ?_
    refine g_iload_n (pc := 28) C d_Pa_goOn_28 rfl 3 rfl ?_
    obtain ⟨r9, hc10, h⟩ := o_bn1 h
    refine g_V (pc := 29) (rest := [.int x3, .ref (ad b7)]) C (k_Po_at (xl X) hb8 hc10) sm_Po_at ml_Pa_21 im_Po_at se_Po_at gcX6 rfl hb8 ⟨rfl, rfl, Nat.le_of_ble_eq_true rfl, Nat.le_of_ble_eq_true rfl⟩ ⟨Nat.zero_le _, Nat.zero_le _⟩ rfl rfl (Nat.le_of_ble_eq_true rfl) d_Pa_goOn_29 [.long r9, .int x3, .ref (ad b7)] rfl ?_
    refine g_aload_n (pc := 32) C d_Pa_goOn_32 rfl 1 rfl ?_
    refine g_getN (pc := 33) (k := 0) (v := .long (J a1 0)) C gcX2 inX2 (by decide) fl_Pa_66 ha1 rfl d_Pa_goOn_33 ?_
    refine g_aload_n (pc := 36) C d_Pa_goOn_36 rfl 0 rfl ?_
    obtain ⟨b11, hnb11, hb11, h⟩ := o_rq h
    refine g_get (pc := 37) (k := 1) (v := va_rf ((N a0 1).map ad)) C gcX5 inX5 (by decide) fl_Pa_18 ha0 rfl d_Pa_goOn_37 ?_
    refine g_top (g_rf hnb11) ?_
    refine g_iload_n (pc := 40) C d_Pa_goOn_40 rfl 3 rfl ?_
    refine g_iload_n (pc := 41) C d_Pa_goOn_41 rfl 2 rfl ?_
    refine g_isub (pc := 42) C d_Pa_goOn_42 ?_
    obtain ⟨r12, hc13, h⟩ := o_bn1 h
    refine g_V (pc := 43) (rest := [.long (J a1 0), .long r9, .int x3, .ref (ad b7)]) C (k_Po_at (xl X) hb11 hc13) sm_Po_at ml_Pa_21 im_Po_at se_Po_at gcX6 rfl hb11 ⟨rfl, rfl, Nat.le_of_ble_eq_true rfl, Nat.le_of_ble_eq_true rfl⟩ ⟨Nat.zero_le _, Nat.zero_le _⟩ rfl rfl (Nat.le_of_ble_eq_true rfl) d_Pa_goOn_43 [.long r12, .long (J a1 0), .long r9, .int x3, .ref (ad b7)] rfl ?_
    refine g_lmul (pc := 46) C d_Pa_goOn_46 ?_
    refine g_lsub (pc := 47) C d_Pa_goOn_47 ?_
    obtain ⟨J14, hc15, h⟩ := o_bn1 h
    refine g_V (pc := 48) (rest := []) C (k_Po_put (xl X) hb7 hc15) sm_Po_put ml_Pa_25 im_Po_put se_Po_put gcX6 rfl hb7 ⟨rfl, rfl, Nat.le_of_ble_eq_true rfl, Nat.le_of_ble_eq_true rfl⟩ ⟨Nat.zero_le _, Nat.zero_le _⟩ rfl rfl (Nat.le_of_ble_eq_true rfl) d_Pa_goOn_48 [] rfl ?_
    refine g_iinc (pc := 51) (q := 3) (lv' := [(3, .int (x3 + 1)), (0, .ref (ad a0)), (1, .ref (ad a1)), (2, .int p2)]) C d_Pa_goOn_51 rfl rfl (by decide) rfl ?_
    refine g_goto (pc := 54) C 13 d_Pa_goOn_54 rfl ?_
    refine g_lv [1, 2, 3, 0] rfl ?_
    exact hk13 _ _ _ h
set_option maxRecDepth 20000 in
theorem w_Pa_goOn_13 {X : HX} {ad : Nat → Nat} {I : HI} {r : HJ × HN} {a0 : Nat} {a1 : Nat} {p2 : Int32} (C : Cx X c_Pa_goOn RX5 4 none rm_Pa_goOn) (ha0 : gk Tc nC a0 (0, 5)) (ha1 : gk Tc nC a1 (0, 2)) : ∀ (n : Nat) (J : HJ) (N : HN) (x3 : Int32), Pa_goOn_13 a0 a1 p2 n J N x3 = some r → G Tc X ad nC 0 0 I J N (gE X Tc ad nC (I, r.1, r.2, fun _ => none)) 13 4 [(0, .ref (ad a0)), (1, .ref (ad a1)), (2, .int p2), (3, .int x3)] [] := by
  intro n
  induction n with
  | zero => intro J N x3 h; cases h
  | succ n ih => intro J N x3 h; exact w_Pa_goOn_13b C ha0 ha1 ih h
set_option maxRecDepth 20000 in
theorem w_Pa_goOn_0 {X : HX} {ad : Nat → Nat} {I : HI} {J : HJ} {N : HN} {r : HJ × HN} {a0 : Nat} {a1 : Nat} {p2 : Int32} (C : Cx X c_Pa_goOn RX5 4 none rm_Pa_goOn) (ha0 : gk Tc nC a0 (0, 5)) (ha1 : gk Tc nC a1 (0, 2))
    (h : Pa_goOn_0 a0 a1 p2 J N = some r) : G Tc X ad nC 0 0 I J N (gE X Tc ad nC (I, r.1, r.2, fun _ => none)) 0 4 [(0, .ref (ad a0)), (1, .ref (ad a1)), (2, .int p2)] [] := by
  refine g_aload_n (pc := 0) C d_Pa_goOn_0 rfl 0 rfl ?_
  obtain ⟨b1, hnb1, hb1, h⟩ := o_rq h
  refine g_get (pc := 1) (k := 0) (v := va_rf ((N a0 0).map ad)) C gcX5 inX5 (by decide) fl_Pa_12 ha0 rfl d_Pa_goOn_1 ?_
  refine g_top (g_rf hnb1) ?_
  refine g_aload_n (pc := 4) C d_Pa_goOn_4 rfl 1 rfl ?_
  refine g_getN (pc := 5) (k := 1) (v := .long (J a1 1)) C gcX2 inX2 (by decide) fl_Pa_58 ha1 rfl d_Pa_goOn_5 ?_
  obtain ⟨J2, hc3, h⟩ := o_bn1 h
  refine g_V (pc := 8) (rest := []) C (k_Po_multiplyBy (xl X) hb1 hc3) sm_Po_multiplyBy ml_Pa_63 im_Po_multiplyBy se_Po_multiplyBy gcX6 rfl hb1 ⟨rfl, rfl, Nat.le_of_ble_eq_true rfl, Nat.le_of_ble_eq_true rfl⟩ ⟨Nat.zero_le _, Nat.zero_le _⟩ rfl rfl (Nat.le_of_ble_eq_true rfl) d_Pa_goOn_8 [] rfl ?_
  refine g_iconst (pc := 11) C (0 : Int32) d_Pa_goOn_11 (by decide) ?_
  refine g_istore_n (pc := 12) (lv' := [(3, .int (0 : Int32)), (0, .ref (ad a0)), (1, .ref (ad a1)), (2, .int p2)]) C d_Pa_goOn_12 rfl (by decide) rfl ?_
  refine g_lv [1, 2, 3, 0] rfl ?_
  exact w_Pa_goOn_13 C ha0 ha1 _ _ _ _ h
set_option maxRecDepth 20000 in
theorem k_Pa_goOn (l : Launch) {I : HI} {J : HJ} {N : HN} {a0 : Nat} {a1 : Nat} {p2 : Int32} {r : HJ × HN} (ha0 : gk Tc nC a0 (0, 5)) (ha1 : gk Tc nC a1 (0, 2)) (h : Pa_goOn a0 a1 p2 J N = some r) : gM l y_Pa_goOn c_Pa_goOn 4 none rm_Pa_goOn Tc nC I J N (fun ad => [.ref (ad a0), .ref (ad a1), .int p2]) (I, r.1, r.2, fun _ => none) :=
  g_meth (lv := fun ad => [(0, .ref (ad a0)), (1, .ref (ad a1)), (2, .int p2)]) (by decide) (fun _ => Nat.le_of_ble_eq_true rfl) (fun _ => rfl) (fun X ad C => g_lv [0, 1, 2] rfl (w_Pa_goOn_0 C ha0 ha1 h))
theorem d_Po_loadEveryOther_0 : decode c_Po_loadEveryOther 0 = .ok (.iconst 0, 1) := by decide +kernel
theorem d_Po_loadEveryOther_1 : decode c_Po_loadEveryOther 1 = .ok (.istore_n 3, 1) := by decide +kernel
theorem d_Po_loadEveryOther_2 : decode c_Po_loadEveryOther 2 = .ok (.iload_n 3, 1) := by decide +kernel
theorem d_Po_loadEveryOther_3 : decode c_Po_loadEveryOther 3 = .ok (.bipush 7, 2) := by decide +kernel
theorem d_Po_loadEveryOther_5 : decode c_Po_loadEveryOther 5 = .ok (.if_icmp .ge 24, 3) := by decide +kernel
theorem d_Po_loadEveryOther_8 : decode c_Po_loadEveryOther 8 = .ok (.aload_n 0, 1) := by decide +kernel
theorem d_Po_loadEveryOther_9 : decode c_Po_loadEveryOther 9 = .ok (.getfield 9, 3) := by decide +kernel
theorem d_Po_loadEveryOther_12 : decode c_Po_loadEveryOther 12 = .ok (.iload_n 3, 1) := by decide +kernel
theorem d_Po_loadEveryOther_13 : decode c_Po_loadEveryOther 13 = .ok (.aload_n 1, 1) := by decide +kernel
theorem d_Po_loadEveryOther_14 : decode c_Po_loadEveryOther 14 = .ok (.iload_n 2, 1) := by decide +kernel
theorem d_Po_loadEveryOther_15 : decode c_Po_loadEveryOther 15 = .ok (.iconst 2, 1) := by decide +kernel
theorem d_Po_loadEveryOther_16 : decode c_Po_loadEveryOther 16 = .ok (.iload_n 3, 1) := by decide +kernel
theorem d_Po_loadEveryOther_17 : decode c_Po_loadEveryOther 17 = .ok (.imul, 1) := by decide +kernel
theorem d_Po_loadEveryOther_18 : decode c_Po_loadEveryOther 18 = .ok (.iadd, 1) := by decide +kernel
theorem d_Po_loadEveryOther_19 : decode c_Po_loadEveryOther 19 = .ok (.invokevirtual 15, 3) := by decide +kernel
theorem d_Po_loadEveryOther_22 : decode c_Po_loadEveryOther 22 = .ok (.lastore, 1) := by decide +kernel
theorem d_Po_loadEveryOther_23 : decode c_Po_loadEveryOther 23 = .ok (.iinc 3 1, 3) := by decide +kernel
theorem d_Po_loadEveryOther_26 : decode c_Po_loadEveryOther 26 = .ok (.goto (-24), 3) := by decide +kernel
theorem d_Po_loadEveryOther_29 : decode c_Po_loadEveryOther 29 = .ok (.return_, 1) := by decide +kernel
set_option maxRecDepth 20000 in
theorem w_Po_loadEveryOther_2b {X : HX} {ad : Nat → Nat} {I : HI} {J : HJ} {N : HN} {r : HJ} {k2 : HJ → Int32 → Option (HJ)} {a0 : Nat} {a1 : Nat} {p2 : Int32} {x3 : Int32} (C : Cx X c_Po_loadEveryOther RX6 4 none rm_Po_loadEveryOther) (ha0 : gk Tc nC a0 (0, 6)) (ha1 : gk Tc nC a1 (0, 6))
    (hk2 : ∀ (J : HJ) (x3 : Int32), k2 J x3 = some r → G Tc X ad nC 0 0 I J N (gE X Tc ad nC (I, r, N, fun _ => none)) 2 4 [(0, .ref (ad a0)), (1, .ref (ad a1)), (2, .int p2), (3, .int x3)] [])
    (h : Po_loadEveryOther_2b N a0 a1 p2 k2 J x3 = some r) : G Tc X ad nC 0 0 I J N (gE X Tc ad nC (I, r, N, fun _ => none)) 2 4 [(0, .ref (ad a0)), (1, .ref (ad a1)), (2, .int p2), (3, .int x3)] [] := by
  refine g_iload_n (pc := 2) C d_Po_loadEveryOther_2 rfl 3 rfl ?_
  refine g_bipush (pc := 3) C (7 : Int32) d_Po_loadEveryOther_3 (by decide) ?_
  refine g_icmp_ge (pc := 5) C 29 d_Po_loadEveryOther_5 rfl (fun e1 => ?_) (fun e1 => ?_)
  · have h := o_pos e1 h
    obtain rfl := o_ret h
    exact g_vret (pc := 29) C d_Po_loadEveryOther_29
  · have h := o_neg e1 h
    refine g_aload_n (pc := 8) C d_Po_loadEveryOther_8 rfl 0 rfl ?_
    obtain ⟨b2, hnb2, hb2, h⟩ := o_ra h
    refine g_get (pc := 9) (k := 0) (v := va_rf ((N a0 0).map ad)) C gcX6 inX6 (by decide) fl_Po_9 ha0 rfl d_Po_loadEveryOther_9 ?_
    refine g_top (g_rf hnb2) ?_
    refine g_iload_n (pc := 12) C d_Po_loadEveryOther_12 rfl 3 rfl ?_
    refine g_aload_n (pc := 13) C d_Po_loadEveryOther_13 rfl 1 rfl ?_
    refine g_iload_n (pc := 14) C d_Po_loadEveryOther_14 rfl 2 rfl ?_
    refine g_iconst (pc := 15) C (2 : Int32) d_Po_loadEveryOther_15 (by decide) ?_
    refine g_iload_n (pc := 16) C d_Po_loadEveryOther_16 rfl 3 rfl ?_
    refine g_imul (pc := 17) C d_Po_loadEveryOther_17 ?_
    refine g_iadd (pc := 18) C d_Po_loadEveryOther_18 ?_
    obtain ⟨r3, hc4, h⟩ := o_bn1 h
    refine g_V (pc := 19) (rest := [.int x3, .ref (ad b2)]) C (k_Po_at (xl X) ha1 hc4) sm_Po_at ml_Po_15 im_Po_at se_Po_at gcX6 rfl ha1 ⟨rfl, rfl, Nat.le_of_ble_eq_true rfl, Nat.le_of_ble_eq_true rfl⟩ ⟨Nat.zero_le _, Nat.zero_le _⟩ rfl rfl (Nat.le_of_ble_eq_true rfl) d_Po_loadEveryOther_19 [.long r3, .int x3, .ref (ad b2)] rfl ?_
    obtain ⟨hi5, h⟩ := o_gd h
    refine g_last (pc := 22) C hb2 hi5 d_Po_loadEveryOther_22 ?_
    obtain ⟨J6, eJ6, h⟩ := o_bd h
    rw [← eJ6]
    refine g_iinc (pc := 23) (q := 3) (lv' := [(3, .int (x3 + 1)), (0, .ref (ad a0)), (1, .ref (ad a1)), (2, .int p2)]) C d_Po_loadEveryOther_23 rfl rfl (by decide) rfl ?_
    refine g_goto (pc := 26) C 2 d_Po_loadEveryOther_26 rfl ?_
    refine g_lv [1, 2, 3, 0] rfl ?_
    exact hk2 _ _ h
set_option maxRecDepth 20000 in
theorem w_Po_loadEveryOther_2 {X : HX} {ad : Nat → Nat} {I : HI} {N : HN} {r : HJ} {a0 : Nat} {a1 : Nat} {p2 : Int32} (C : Cx X c_Po_loadEveryOther RX6 4 none rm_Po_loadEveryOther) (ha0 : gk Tc nC a0 (0, 6)) (ha1 : gk Tc nC a1 (0, 6)) : ∀ (n : Nat) (J : HJ) (x3 : Int32), Po_loadEveryOther_2 N a0 a1 p2 n J x3 = some r → G Tc X ad nC 0 0 I J N (gE X Tc ad nC (I, r, N, fun _ => none)) 2 4 [(0, .ref (ad a0)), (1, .ref (ad a1)), (2, .int p2), (3, .int x3)] [] := by
  intro n
  induction n with
  | zero => intro J x3 h; cases h
  | succ n ih => intro J x3 h; exact w_Po_loadEveryOther_2b C ha0 ha1 ih h
set_option maxRecDepth 20000 in
theorem w_Po_loadEveryOther_0 {X : HX} {ad : Nat → Nat} {I : HI} {J : HJ} {N : HN} {r : HJ} {a0 : Nat} {a1 : Nat} {p2 : Int32} (C : Cx X c_Po_loadEveryOther RX6 4 none rm_Po_loadEveryOther) (ha0 : gk Tc nC a0 (0, 6)) (ha1 : gk Tc nC a1 (0, 6))
    (h : Po_loadEveryOther_0 N a0 a1 p2 J = some r) : G Tc X ad nC 0 0 I J N (gE X Tc ad nC (I, r, N, fun _ => none)) 0 4 [(0, .ref (ad a0)), (1, .ref (ad a1)), (2, .int p2)] [] := by
  refine g_iconst (pc := 0) C (0 : Int32) d_Po_loadEveryOther_0 (by decide) ?_
  refine g_istore_n (pc := 1) (lv' := [(3, .int (0 : Int32)), (0, .ref (ad a0)), (1, .ref (ad a1)), (2, .int p2)]) C d_Po_loadEveryOther_1 rfl (by decide) rfl ?_
  refine g_lv [1, 2, 3, 0] rfl ?_
  exact w_Po_loadEveryOther_2 C ha0 ha1 _ _ _ h
set_option maxRecDepth 20000 in
theorem k_Po_loadEveryOther (l : Launch) {I : HI} {J : HJ} {N : HN} {a0 : Nat} {a1 : Nat} {p2 : Int32} {r : HJ} (ha0 : gk Tc nC a0 (0, 6)) (ha1 : gk Tc nC a1 (0, 6)) (h : Po_loadEveryOther N a0 a1 p2 J = some r) : gM l y_Po_loadEveryOther c_Po_loadEveryOther 4 none rm_Po_loadEveryOther Tc nC I J N (fun ad => [.ref (ad a0), .ref (ad a1), .int p2]) (I, r, N, fun _ => none) :=
  g_meth (lv := fun ad => [(0, .ref (ad a0)), (1, .ref (ad a1)), (2, .int p2)]) (by decide) (fun _ => Nat.le_of_ble_eq_true rfl) (fun _ => rfl) (fun X ad C => g_lv [0, 1, 2] rfl (w_Po_loadEveryOther_0 C ha0 ha1 h))
theorem d_Po_leastPower_0 : decode c_Po_leastPower 0 = .ok (.iconst 0, 1) := by decide +kernel
theorem d_Po_leastPower_1 : decode c_Po_leastPower 1 = .ok (.istore_n 1, 1) := by decide +kernel
theorem d_Po_leastPower_2 : decode c_Po_leastPower 2 = .ok (.iload_n 1, 1) := by decide +kernel
theorem d_Po_leastPower_3 : decode c_Po_leastPower 3 = .ok (.bipush 7, 2) := by decide +kernel
theorem d_Po_leastPower_5 : decode c_Po_leastPower 5 = .ok (.if_icmp .ge 22, 3) := by decide +kernel
theorem d_Po_leastPower_8 : decode c_Po_leastPower 8 = .ok (.aload_n 0, 1) := by decide +kernel
theorem d_Po_leastPower_9 : decode c_Po_leastPower 9 = .ok (.getfield 9, 3) := by decide +kernel
theorem d_Po_leastPower_12 : decode c_Po_leastPower 12 = .ok (.iload_n 1, 1) := by decide +kernel
theorem d_Po_leastPower_13 : decode c_Po_leastPower 13 = .ok (.laload, 1) := by decide +kernel
theorem d_Po_leastPower_14 : decode c_Po_leastPower 14 = .ok (.lconst 0, 1) := by decide +kernel
theorem d_Po_leastPower_15 : decode c_Po_leastPower 15 = .ok (.lcmp, 1) := by decide +kernel
theorem d_Po_leastPower_16 : decode c_Po_leastPower 16 = .ok (.ifCond .eq 5, 3) := by decide +kernel
theorem d_Po_leastPower_19 : decode c_Po_leastPower 19 = .ok (.iload_n 1, 1) := by decide +kernel
theorem d_Po_leastPower_20 : decode c_Po_leastPower 20 = .ok (.ireturn, 1) := by decide +kernel
theorem d_Po_leastPower_21 : decode c_Po_leastPower 21 = .ok (.iinc 1 1, 3) := by decide +kernel
theorem d_Po_leastPower_24 : decode c_Po_leastPower 24 = .ok (.goto (-22), 3) := by decide +kernel
theorem d_Po_leastPower_27 : decode c_Po_leastPower 27 = .ok (.iconst (-1), 1) := by decide +kernel
theorem d_Po_leastPower_28 : decode c_Po_leastPower 28 = .ok (.ireturn, 1) := by decide +kernel
set_option maxRecDepth 20000 in
theorem w_Po_leastPower_2b {X : HX} {ad : Nat → Nat} {I : HI} {J : HJ} {N : HN} {r : Int32} {k2 : Int32 → Option (Int32)} {a0 : Nat} {x1 : Int32} (C : Cx X c_Po_leastPower RX6 2 (some .int) rm_Po_leastPower) (ha0 : gk Tc nC a0 (0, 6))
    (hk2 : ∀ (x1 : Int32), k2 x1 = some r → G Tc X ad nC 0 0 I J N (gE X Tc ad nC (I, J, N, fun _ => some (.int r))) 2 2 [(0, .ref (ad a0)), (1, .int x1)] [])
    (h : Po_leastPower_2b J N a0 k2 x1 = some r) : G Tc X ad nC 0 0 I J N (gE X Tc ad nC (I, J, N, fun _ => some (.int r))) 2 2 [(0, .ref (ad a0)), (1, .int x1)] [] := by
  refine g_iload_n (pc := 2) C d_Po_leastPower_2 rfl 1 rfl ?_
  refine g_bipush (pc := 3) C (7 : Int32) d_Po_leastPower_3 (by decide) ?_
  refine g_icmp_ge (pc := 5) C 27 d_Po_leastPower_5 rfl (fun e1 => ?_) (fun e1 => ?_)
  · have h := o_pos e1 h
    refine g_iconst (pc := 27) C (-1 : Int32) d_Po_leastPower_27 (by decide) ?_
    obtain rfl := o_ret h
    exact g_iret (pc := 28) C d_Po_leastPower_28
  · have h := o_neg e1 h
    refine g_aload_n (pc := 8) C d_Po_leastPower_8 rfl 0 rfl ?_
    obtain ⟨b2, hnb2, hb2, h⟩ := o_ra h
    refine g_get (pc := 9) (k := 0) (v := va_rf ((N a0 0).map ad)) C gcX6 inX6 (by decide) fl_Po_9 ha0 rfl d_Po_leastPower_9 ?_
    refine g_top (g_rf hnb2) ?_
    refine g_iload_n (pc := 12) C d_Po_leastPower_12 rfl 1 rfl ?_
    obtain ⟨hi3, h⟩ := o_gd h
    refine g_lald (pc := 13) C hb2 hi3 d_Po_leastPower_13 ?_
    refine g_lconst (pc := 14) C (0 : Int64) d_Po_leastPower_14 (by decide) ?_
    refine g_lcmp_eq (pc := 15) C 21 d_Po_leastPower_15 d_Po_leastPower_16 rfl (fun e4 => ?_) (fun e4 => ?_)
    · have h := o_pos e4 h
      refine g_iinc (pc := 21) (q := 1) (lv' := [(1, .int (x1 + 1)), (0, .ref (ad a0))]) C d_Po_leastPower_21 rfl rfl (by decide) rfl ?_
      refine g_goto (pc := 24) C 2 d_Po_leastPower_24 rfl ?_
      refine g_lv [1, 0] rfl ?_
      exact hk2 _ h
    · have h := o_neg e4 h
      refine g_iload_n (pc := 19) C d_Po_leastPower_19 rfl 1 rfl ?_
      obtain rfl := o_ret h
      exact g_iret (pc := 20) C d_Po_leastPower_20
set_option maxRecDepth 20000 in
theorem w_Po_leastPower_2 {X : HX} {ad : Nat → Nat} {I : HI} {J : HJ} {N : HN} {r : Int32} {a0 : Nat} (C : Cx X c_Po_leastPower RX6 2 (some .int) rm_Po_leastPower) (ha0 : gk Tc nC a0 (0, 6)) : ∀ (n : Nat) (x1 : Int32), Po_leastPower_2 J N a0 n x1 = some r → G Tc X ad nC 0 0 I J N (gE X Tc ad nC (I, J, N, fun _ => some (.int r))) 2 2 [(0, .ref (ad a0)), (1, .int x1)] [] := by
  intro n
  induction n with
  | zero => intro x1 h; cases h
  | succ n ih => intro x1 h; exact w_Po_leastPower_2b C ha0 ih h
set_option maxRecDepth 20000 in
theorem w_Po_leastPower_0 {X : HX} {ad : Nat → Nat} {I : HI} {J : HJ} {N : HN} {r : Int32} {a0 : Nat} (C : Cx X c_Po_leastPower RX6 2 (some .int) rm_Po_leastPower) (ha0 : gk Tc nC a0 (0, 6))
    (h : Po_leastPower_0 J N a0 = some r) : G Tc X ad nC 0 0 I J N (gE X Tc ad nC (I, J, N, fun _ => some (.int r))) 0 2 [(0, .ref (ad a0))] [] := by
  refine g_iconst (pc := 0) C (0 : Int32) d_Po_leastPower_0 (by decide) ?_
  refine g_istore_n (pc := 1) (lv' := [(1, .int (0 : Int32)), (0, .ref (ad a0))]) C d_Po_leastPower_1 rfl (by decide) rfl ?_
  refine g_lv [1, 0] rfl ?_
  exact w_Po_leastPower_2 C ha0 _ _ h
set_option maxRecDepth 20000 in
theorem k_Po_leastPower (l : Launch) {I : HI} {J : HJ} {N : HN} {a0 : Nat} {r : Int32} (ha0 : gk Tc nC a0 (0, 6)) (h : Po_leastPower J N a0 = some r) : gM l y_Po_leastPower c_Po_leastPower 2 (some .int) rm_Po_leastPower Tc nC I J N (fun ad => [.ref (ad a0)]) (I, J, N, fun _ => some (.int r)) :=
  g_meth (lv := fun ad => [(0, .ref (ad a0))]) (by decide) (fun _ => Nat.le_of_ble_eq_true rfl) (fun _ => rfl) (fun X ad C => g_lv [0] rfl (w_Po_leastPower_0 C ha0 h))
theorem d_Po_runBackwards_0 : decode c_Po_runBackwards 0 = .ok (.iconst 0, 1) := by decide +kernel
theorem d_Po_runBackwards_1 : decode c_Po_runBackwards 1 = .ok (.istore_n 2, 1) := by decide +kernel
theorem d_Po_runBackwards_2 : decode c_Po_runBackwards 2 = .ok (.iload_n 2, 1) := by decide +kernel
theorem d_Po_runBackwards_3 : decode c_Po_runBackwards 3 = .ok (.bipush 7, 2) := by decide +kernel
theorem d_Po_runBackwards_5 : decode c_Po_runBackwards 5 = .ok (.if_icmp .ge 42, 3) := by decide +kernel
theorem d_Po_runBackwards_8 : decode c_Po_runBackwards 8 = .ok (.iload_n 2, 1) := by decide +kernel
theorem d_Po_runBackwards_9 : decode c_Po_runBackwards 9 = .ok (.iload_n 1, 1) := by decide +kernel
theorem d_Po_runBackwards_10 : decode c_Po_runBackwards 10 = .ok (.iload_n 2, 1) := by decide +kernel
theorem d_Po_runBackwards_11 : decode c_Po_runBackwards 11 = .ok (.isub, 1) := by decide +kernel
theorem d_Po_runBackwards_12 : decode c_Po_runBackwards 12 = .ok (.if_icmp .ge 35, 3) := by decide +kernel
theorem d_Po_runBackwards_15 : decode c_Po_runBackwards 15 = .ok (.aload_n 0, 1) := by decide +kernel
theorem d_Po_runBackwards_16 : decode c_Po_runBackwards 16 = .ok (.iload_n 2, 1) := by decide +kernel
theorem d_Po_runBackwards_17 : decode c_Po_runBackwards 17 = .ok (.invokevirtual 15, 3) := by decide +kernel
theorem d_Po_runBackwards_20 : decode c_Po_runBackwards 20 = .ok (.lstore_n 3, 1) := by decide +kernel
theorem d_Po_runBackwards_21 : decode c_Po_runBackwards 21 = .ok (.aload_n 0, 1) := by decide +kernel
theorem d_Po_runBackwards_22 : decode c_Po_runBackwards 22 = .ok (.iload_n 2, 1) := by decide +kernel
theorem d_Po_runBackwards_23 : decode c_Po_runBackwards 23 = .ok (.aload_n 0, 1) := by decide +kernel
theorem d_Po_runBackwards_24 : decode c_Po_runBackwards 24 = .ok (.iload_n 1, 1) := by decide +kernel
theorem d_Po_runBackwards_25 : decode c_Po_runBackwards 25 = .ok (.iload_n 2, 1) := by decide +kernel
theorem d_Po_runBackwards_26 : decode c_Po_runBackwards 26 = .ok (.isub, 1) := by decide +kernel
theorem d_Po_runBackwards_27 : decode c_Po_runBackwards 27 = .ok (.invokevirtual 15, 3) := by decide +kernel
theorem d_Po_runBackwards_30 : decode c_Po_runBackwards 30 = .ok (.invokevirtual 19, 3) := by decide +kernel
theorem d_Po_runBackwards_33 : decode c_Po_runBackwards 33 = .ok (.aload_n 0, 1) := by decide +kernel
theorem d_Po_runBackwards_34 : decode c_Po_runBackwards 34 = .ok (.iload_n 1, 1) := by decide +kernel
theorem d_Po_runBackwards_35 : decode c_Po_runBackwards 35 = .ok (.iload_n 2, 1) := by decide +kernel
theorem d_Po_runBackwards_36 : decode c_Po_runBackwards 36 = .ok (.isub, 1) := by decide +kernel
theorem d_Po_runBackwards_37 : decode c_Po_runBackwards 37 = .ok (.lload_n 3, 1) := by decide +kernel
theorem d_Po_runBackwards_38 : decode c_Po_runBackwards 38 = .ok (.invokevirtual 19, 3) := by decide +kernel
theorem d_Po_runBackwards_41 : decode c_Po_runBackwards 41 = .ok (.iinc 2 1, 3) := by decide +kernel
theorem d_Po_runBackwards_44 : decode c_Po_runBackwards 44 = .ok (.goto (-42), 3) := by decide +kernel
theorem d_Po_runBackwards_47 : decode c_Po_runBackwards 47 = .ok (.return_, 1) := by decide +kernel
set_option maxRecDepth 20000 in
theorem w_Po_runBackwards_2b {X : HX} {ad : Nat → Nat} {I : HI} {J : HJ} {N : HN} {r : HJ} {k2 : HJ → Int32 → Option (HJ)} {a0 : Nat} {p1 : Int32} {x2 : Int32} (C : Cx X c_Po_runBackwards RX6 5 none rm_Po_runBackwards) (ha0 : gk Tc nC a0 (0, 6))
    (hk2 : ∀ (J : HJ) (x2 : Int32), k2 J x2 = some r → G Tc X ad nC 0 0 I J N (gE X Tc ad nC (I, r, N, fun _ => none)) 2 5 [(0, .ref (ad a0)), (1, .int p1), (2, .int x2)] [])
    (h : Po_runBackwards_2b N a0 p1 k2 J x2 = some r) : G Tc X ad nC 0 0 I J N (gE X Tc ad nC (I, r, N, fun _ => none)) 2 5 [(0, .ref (ad a0)), (1, .int p1), (2, .int x2)] [] := by
  refine g_iload_n (pc := 2) C d_Po_runBackwards_2 rfl 2 rfl ?_
  refine g_bipush (pc := 3) C (7 : Int32) d_Po_runBackwards_3 (by decide) ?_
  refine g_icmp_ge (pc := 5) C 47 d_Po_runBackwards_5 rfl (fun e1 => ?_) (fun e1 => ?_)
  · have h := o_pos e1 h
    obtain rfl := o_ret h
    exact g_vret (pc := 47) C d_Po_runBackwards_47
  · have h := o_neg e1 h
    refine g_iload_n (pc := 8) C d_Po_runBackwards_8 rfl 2 rfl ?_
    refine g_iload_n (pc := 9) C d_Po_runBackwards_9 rfl 1 rfl ?_
    refine g_iload_n (pc := 10) C d_Po_runBackwards_10 rfl 2 rfl ?_
    refine g_isub (pc := 11) C d_Po_runBackwards_11 ?_
    refine g_icmp_ge (pc := 12) C 47 d_Po_runBackwards_12 rfl (fun e2 => ?_) (fun e2 => ?_)
    · have h := o_pos e2 h
      obtain rfl := o_ret h
      exact g_vret (pc := 47) C d_Po_runBackwards_47
    · have h := o_neg e2 h
      refine g_aload_n (pc := 15) C d_Po_runBackwards_15 rfl 0 rfl ?_
      refine g_iload_n (pc := 16) C d_Po_runBackwards_16 rfl 2 rfl ?_
      obtain ⟨r3, hc4, h⟩ := o_bn1 h
      refine g_V (pc := 17) (rest := []) C (k_Po_at (xl X) ha0 hc4) sm_Po_at ml_Po_15 im_Po_at se_Po_at gcX6 rfl ha0 ⟨rfl, rfl, Nat.le_of_ble_eq_true rfl, Nat.le_of_ble_eq_true rfl⟩ ⟨Nat.zero_le _, Nat.zero_le _⟩ rfl rfl (Nat.le_of_ble_eq_true rfl) d_Po_runBackwards_17 [.long r3] rfl ?_
      refine g_lstore_n (pc := 20) (lv' := [(3, .long r3), (0, .ref (ad a0)), (1, .int p1), (2, .int x2)]) C d_Po_runBackwards_20 rfl (by decide) rfl ?_
      refine g_aload_n (pc := 21) C d_Po_runBackwards_21 rfl 1 rfl ?_
      refine g_iload_n (pc := 22) C d_Po_runBackwards_22 rfl 3 rfl ?_
      refine g_aload_n (pc := 23) C d_Po_runBackwards_23 rfl 1 rfl ?_
      refine g_iload_n (pc := 24) C d_Po_runBackwards_24 rfl 2 rfl ?_
      refine g_iload_n (pc := 25) C d_Po_runBackwards_25 rfl 3 rfl ?_
      refine g_isub (pc := 26) C d_Po_runBackwards_26 ?_
      obtain ⟨r5, hc6, h⟩ := o_bn1 h
      refine g_V (pc := 27) (rest := [.int x2, .ref (ad a0)]) C (k_Po_at (xl X) ha0 hc6) sm_Po_at ml_Po_15 im_Po_at se_Po_at gcX6 rfl ha0 ⟨rfl, rfl, Nat.le_of_ble_eq_true rfl, Nat.le_of_ble_eq_true rfl⟩ ⟨Nat.zero_le _, Nat.zero_le _⟩ rfl rfl (Nat.le_of_ble_eq_true rfl) d_Po_runBackwards_27 [.long r5, .int x2, .ref (ad a0)] rfl ?_
      obtain ⟨J7, hc8, h⟩ := o_bn1 h
      refine g_V (pc := 30) (rest := []) C (k_Po_put (xl X) ha0 hc8) sm_Po_put ml_Po_19 im_Po_put se_Po_put gcX6 rfl ha0 ⟨rfl, rfl, Nat.le_of_ble_eq_true rfl, Nat.le_of_ble_eq_true rfl⟩ ⟨Nat.zero_le _, Nat.zero_le _⟩ rfl rfl (Nat.le_of_ble_eq_true rfl) d_Po_runBackwards_30 [] rfl ?_
      refine g_aload_n (pc := 33) C d_Po_runBackwards_33 rfl 1 rfl ?_
      refine g_iload_n (pc := 34) C d_Po_runBackwards_34 rfl 2 rfl ?_
      refine g_iload_n (pc := 35) C d_Po_runBackwards_35 rfl 3 rfl ?_
      refine g_isub (pc := 36) C d_Po_runBackwards_36 ?_
      refine g_lload_n (pc := 37) C d_Po_runBackwards_37 rfl 0 rfl ?_
      obtain ⟨J9, hc10, h⟩ := o_bn1 h
      refine g_V (pc := 38) (rest := []) C (k_Po_put (xl X) ha0 hc10) sm_Po_put ml_Po_19 im_Po_put se_Po_put gcX6 rfl ha0 ⟨rfl, rfl, Nat.le_of_ble_eq_true rfl, Nat.le_of_ble_eq_true rfl⟩ ⟨Nat.zero_le _, Nat.zero_le _⟩ rfl rfl (Nat.le_of_ble_eq_true rfl) d_Po_runBackwards_38 [] rfl ?_
      refine g_iinc (pc := 41) (q := 3) (lv' := [(2, .int (x2 + 1)), (3, .long r3), (0, .ref (ad a0)), (1, .int p1)]) C d_Po_runBackwards_41 rfl rfl (by decide) rfl ?_
      refine g_goto (pc := 44) C 2 d_Po_runBackwards_44 rfl ?_
      refine g_lv [2, 3, 0] rfl ?_
      exact hk2 _ _ h
set_option maxRecDepth 20000 in
theorem w_Po_runBackwards_2 {X : HX} {ad : Nat → Nat} {I : HI} {N : HN} {r : HJ} {a0 : Nat} {p1 : Int32} (C : Cx X c_Po_runBackwards RX6 5 none rm_Po_runBackwards) (ha0 : gk Tc nC a0 (0, 6)) : ∀ (n : Nat) (J : HJ) (x2 : Int32), Po_runBackwards_2 N a0 p1 n J x2 = some r → G Tc X ad nC 0 0 I J N (gE X Tc ad nC (I, r, N, fun _ => none)) 2 5 [(0, .ref (ad a0)), (1, .int p1), (2, .int x2)] [] := by
  intro n
  induction n with
  | zero => intro J x2 h; cases h
  | succ n ih => intro J x2 h; exact w_Po_runBackwards_2b C ha0 ih h
set_option maxRecDepth 20000 in
theorem w_Po_runBackwards_0 {X : HX} {ad : Nat → Nat} {I : HI} {J : HJ} {N : HN} {r : HJ} {a0 : Nat} {p1 : Int32} (C : Cx X c_Po_runBackwards RX6 5 none rm_Po_runBackwards) (ha0 : gk Tc nC a0 (0, 6))
    (h : Po_runBackwards_0 N a0 p1 J = some r) : G Tc X ad nC 0 0 I J N (gE X Tc ad nC (I, r, N, fun _ => none)) 0 5 [(0, .ref (ad a0)), (1, .int p1)] [] := by
  refine g_iconst (pc := 0) C (0 : Int32) d_Po_runBackwards_0 (by decide) ?_
  refine g_istore_n (pc := 1) (lv' := [(2, .int (0 : Int32)), (0, .ref (ad a0)), (1, .int p1)]) C d_Po_runBackwards_1 rfl (by decide) rfl ?_
  refine g_lv [1, 2, 0] rfl ?_
  exact w_Po_runBackwards_2 C ha0 _ _ _ h
set_option maxRecDepth 20000 in
theorem k_Po_runBackwards (l : Launch) {I : HI} {J : HJ} {N : HN} {a0 : Nat} {p1 : Int32} {r : HJ} (ha0 : gk Tc nC a0 (0, 6)) (h : Po_runBackwards N a0 p1 J = some r) : gM l y_Po_runBackwards c_Po_runBackwards 5 none rm_Po_runBackwards Tc nC I J N (fun ad => [.ref (ad a0), .int p1]) (I, r, N, fun _ => none) :=
  g_meth (lv := fun ad => [(0, .ref (ad a0)), (1, .int p1)]) (by decide) (fun _ => Nat.le_of_ble_eq_true rfl) (fun _ => rfl) (fun X ad C => g_lv [0, 1] rfl (w_Po_runBackwards_0 C ha0 h))
theorem d_Po_valueAtMinus_0 : decode c_Po_valueAtMinus 0 = .ok (.lconst 0, 1) := by decide +kernel
theorem d_Po_valueAtMinus_1 : decode c_Po_valueAtMinus 1 = .ok (.lstore 5, 2) := by decide +kernel
theorem d_Po_valueAtMinus_3 : decode c_Po_valueAtMinus 3 = .ok (.lconst 1, 1) := by decide +kernel
theorem d_Po_valueAtMinus_4 : decode c_Po_valueAtMinus 4 = .ok (.lstore 7, 2) := by decide +kernel
theorem d_Po_valueAtMinus_6 : decode c_Po_valueAtMinus 6 = .ok (.iconst 3, 1) := by decide +kernel
theorem d_Po_valueAtMinus_7 : decode c_Po_valueAtMinus 7 = .ok (.istore 9, 2) := by decide +kernel
theorem d_Po_valueAtMinus_9 : decode c_Po_valueAtMinus 9 = .ok (.iload 9, 2) := by decide +kernel
theorem d_Po_valueAtMinus_11 : decode c_Po_valueAtMinus 11 = .ok (.ifCond .lt 33, 3) := by decide +kernel
theorem d_Po_valueAtMinus_14 : decode c_Po_valueAtMinus 14 = .ok (.lload_n 1, 1) := by decide +kernel
theorem d_Po_valueAtMinus_15 : decode c_Po_valueAtMinus 15 = .ok (.lneg, 1) := by decide +kernel
theorem d_Po_valueAtMinus_16 : decode c_Po_valueAtMinus 16 = .ok (.lload 5, 2) := by decide +kernel
theorem d_Po_valueAtMinus_18 : decode c_Po_valueAtMinus 18 = .ok (.lmul, 1) := by decide +kernel
theorem d_Po_valueAtMinus_19 : decode c_Po_valueAtMinus 19 = .ok (.lload 7, 2) := by decide +kernel
theorem d_Po_valueAtMinus_21 : decode c_Po_valueAtMinus 21 = .ok (.aload_n 0, 1) := by decide +kernel
theorem d_Po_valueAtMinus_22 : decode c_Po_valueAtMinus 22 = .ok (.getfield 9, 3) := by decide +kernel
theorem d_Po_valueAtMinus_25 : decode c_Po_valueAtMinus 25 = .ok (.iload 9, 2) := by decide +kernel
theorem d_Po_valueAtMinus_27 : decode c_Po_valueAtMinus 27 = .ok (.laload, 1) := by decide +kernel
theorem d_Po_valueAtMinus_28 : decode c_Po_valueAtMinus 28 = .ok (.lmul, 1) := by decide +kernel
theorem d_Po_valueAtMinus_29 : decode c_Po_valueAtMinus 29 = .ok (.ladd, 1) := by decide +kernel
theorem d_Po_valueAtMinus_30 : decode c_Po_valueAtMinus 30 = .ok (.lstore 5, 2) := by decide +kernel
theorem d_Po_valueAtMinus_32 : decode c_Po_valueAtMinus 32 = .ok (.lload 7, 2) := by decide +kernel
theorem d_Po_valueAtMinus_34 : decode c_Po_valueAtMinus 34 = .ok (.lload_n 3, 1) := by decide +kernel
theorem d_Po_valueAtMinus_35 : decode c_Po_valueAtMinus 35 = .ok (.lmul, 1) := by decide +kernel
theorem d_Po_valueAtMinus_36 : decode c_Po_valueAtMinus 36 = .ok (.lstore 7, 2) := by decide +kernel
theorem d_Po_valueAtMinus_38 : decode c_Po_valueAtMinus 38 = .ok (.iinc 9 (-1), 3) := by decide +kernel
theorem d_Po_valueAtMinus_41 : decode c_Po_valueAtMinus 41 = .ok (.goto (-32), 3) := by decide +kernel
theorem d_Po_valueAtMinus_44 : decode c_Po_valueAtMinus 44 = .ok (.lload 5, 2) := by decide +kernel
theorem d_Po_valueAtMinus_46 : decode c_Po_valueAtMinus 46 = .ok (.lreturn, 1) := by decide +kernel
set_option maxRecDepth 20000 in
theorem w_Po_valueAtMinus_9b {X : HX} {ad : Nat → Nat} {I : HI} {J : HJ} {N : HN} {r : Int64} {k9 : Int64 → Int64 → Int32 → Option (Int64)} {a0 : Nat} {p1 : Int64} {p3 : Int64} {x5 : Int64} {x7 : Int64} {x9 : Int32} (C : Cx X c_Po_valueAtMinus RX6 10 (some .long) rm_Po_valueAtMinus) (ha0 : gk Tc nC a0 (0, 6))
    (hk9 : ∀ (x5 : Int64) (x7 : Int64) (x9 : Int32), k9 x5 x7 x9 = some r → G Tc X ad nC 0 0 I J N (gE X Tc ad nC (I, J, N, fun _ => some (.long r))) 9 10 [(0, .ref (ad a0)), (1, .long p1), (3, .long p3), (5, .long x5), (7, .long x7), (9, .int x9)] [])
    (h : Po_valueAtMinus_9b J N a0 p1 p3 k9 x5 x7 x9 = some r) : G Tc X ad nC 0 0 I J N (gE X Tc ad nC (I, J, N, fun _ => some (.long r))) 9 10 [(0, .ref (ad a0)), (1, .long p1), (3, .long p3), (5, .long x5), (7, .long x7), (9, .int x9)] [] := by
  refine g_iload (pc := 9) C d_Po_valueAtMinus_9 5 rfl ?_
  refine g_if_lt (pc := 11) C 44 d_Po_valueAtMinus_11 rfl (fun e1 => ?_) (fun e1 => ?_)
  · have h := o_pos e1 h
    refine g_lload (pc := 44) C d_Po_valueAtMinus_44 3 rfl ?_
    obtain rfl := o_ret h
    exact g_lret (pc := 46) C d_Po_valueAtMinus_46
  · have h := o_neg e1 h
    refine g_lload_n (pc := 14) C d_Po_valueAtMinus_14 rfl 1 rfl ?_
    refine g_lneg (pc := 15) C d_Po_valueAtMinus_15 ?_
    refine g_lload (pc := 16) C d_Po_valueAtMinus_16 3 rfl ?_
    refine g_lmul (pc := 18) C d_Po_valueAtMinus_18 ?_
    refine g_lload (pc := 19) C d_Po_valueAtMinus_19 4 rfl ?_
    refine g_aload_n (pc := 21) C d_Po_valueAtMinus_21 rfl 0 rfl ?_
    obtain ⟨b2, hnb2, hb2, h⟩ := o_ra h
    refine g_get (pc := 22) (k := 0) (v := va_rf ((N a0 0).map ad)) C gcX6 inX6 (by decide) fl_Po_9 ha0 rfl d_Po_valueAtMinus_22 ?_
    refine g_top (g_rf hnb2) ?_
    refine g_iload (pc := 25) C d_Po_valueAtMinus_25 5 rfl ?_
    obtain ⟨hi3, h⟩ := o_gd h
    refine g_lald (pc := 27) C hb2 hi3 d_Po_valueAtMinus_27 ?_
    refine g_lmul (pc := 28) C d_Po_valueAtMinus_28 ?_
    refine g_ladd (pc := 29) C d_Po_valueAtMinus_29 ?_
    obtain ⟨v4, ev4, h⟩ := o_bd h
    refine g_topl ev4 ?_
    refine g_lstore (pc := 30) (lv' := [(5, .long v4), (0, .ref (ad a0)), (1, .long p1), (3, .long p3), (7, .long x7), (9, .int x9)]) C d_Po_valueAtMinus_30 (by decide) rfl ?_
    refine g_lload (pc := 32) C d_Po_valueAtMinus_32 4 rfl ?_
    refine g_lload_n (pc := 34) C d_Po_valueAtMinus_34 rfl 3 rfl ?_
    refine g_lmul (pc := 35) C d_Po_valueAtMinus_35 ?_
    obtain ⟨v5, ev5, h⟩ := o_bd h
    refine g_topl ev5 ?_
    refine g_lstore (pc := 36) (lv' := [(7, .long v5), (5, .long v4), (0, .ref (ad a0)), (1, .long p1), (3, .long p3), (9, .int x9)]) C d_Po_valueAtMinus_36 (by decide) rfl ?_
    refine g_iinc (pc := 38) (q := 5) (lv' := [(9, .int (x9 + (-1))), (7, .long v5), (5, .long v4), (0, .ref (ad a0)), (1, .long p1), (3, .long p3)]) C d_Po_valueAtMinus_38 rfl rfl (by decide) rfl ?_
    refine g_goto (pc := 41) C 9 d_Po_valueAtMinus_41 rfl ?_
    refine g_lv [3, 4, 5, 2, 1, 0] rfl ?_
    exact hk9 _ _ _ h
set_option maxRecDepth 20000 in
theorem w_Po_valueAtMinus_9 {X : HX} {ad : Nat → Nat} {I : HI} {J : HJ} {N : HN} {r : Int64} {a0 : Nat} {p1 : Int64} {p3 : Int64} (C : Cx X c_Po_valueAtMinus RX6 10 (some .long) rm_Po_valueAtMinus) (ha0 : gk Tc nC a0 (0, 6)) : ∀ (n : Nat) (x5 : Int64) (x7 : Int64) (x9 : Int32), Po_valueAtMinus_9 J N a0 p1 p3 n x5 x7 x9 = some r → G Tc X ad nC 0 0 I J N (gE X Tc ad nC (I, J, N, fun _ => some (.long r))) 9 10 [(0, .ref (ad a0)), (1, .long p1), (3, .long p3), (5, .long x5), (7, .long x7), (9, .int x9)] [] := by
  intro n
  induction n with
  | zero => intro x5 x7 x9 h; cases h
  | succ n ih => intro x5 x7 x9 h; exact w_Po_valueAtMinus_9b C ha0 ih h
set_option maxRecDepth 20000 in
theorem w_Po_valueAtMinus_0 {X : HX} {ad : Nat → Nat} {I : HI} {J : HJ} {N : HN} {r : Int64} {a0 : Nat} {p1 : Int64} {p3 : Int64} (C : Cx X c_Po_valueAtMinus RX6 10 (some .long) rm_Po_valueAtMinus) (ha0 : gk Tc nC a0 (0, 6))
    (h : Po_valueAtMinus_0 J N a0 p1 p3 = some r) : G Tc X ad nC 0 0 I J N (gE X Tc ad nC (I, J, N, fun _ => some (.long r))) 0 10 [(0, .ref (ad a0)), (1, .long p1), (3, .long p3)] [] := by
  refine g_lconst (pc := 0) C (0 : Int64) d_Po_valueAtMinus_0 (by decide) ?_
  refine g_lstore (pc := 1) (lv' := [(5, .long (0 : Int64)), (0, .ref (ad a0)), (1, .long p1), (3, .long p3)]) C d_Po_valueAtMinus_1 (by decide) rfl ?_
  refine g_lconst (pc := 3) C (1 : Int64) d_Po_valueAtMinus_3 (by decide) ?_
  refine g_lstore (pc := 4) (lv' := [(7, .long (1 : Int64)), (5, .long (0 : Int64)), (0, .ref (ad a0)), (1, .long p1), (3, .long p3)]) C d_Po_valueAtMinus_4 (by decide) rfl ?_
  refine g_iconst (pc := 6) C (3 : Int32) d_Po_valueAtMinus_6 (by decide) ?_
  refine g_istore (pc := 7) (lv' := [(9, .int (3 : Int32)), (7, .long (1 : Int64)), (5, .long (0 : Int64)), (0, .ref (ad a0)), (1, .long p1), (3, .long p3)]) C d_Po_valueAtMinus_7 (by decide) rfl ?_
  refine g_lv [3, 4, 5, 2, 1, 0] rfl ?_
  exact w_Po_valueAtMinus_9 C ha0 _ _ _ _ h
set_option maxRecDepth 20000 in
theorem k_Po_valueAtMinus (l : Launch) {I : HI} {J : HJ} {N : HN} {a0 : Nat} {p1 : Int64} {p3 : Int64} {r : Int64} (ha0 : gk Tc nC a0 (0, 6)) (h : Po_valueAtMinus J N a0 p1 p3 = some r) : gM l y_Po_valueAtMinus c_Po_valueAtMinus 10 (some .long) rm_Po_valueAtMinus Tc nC I J N (fun ad => [.ref (ad a0), .long p1, .long p3]) (I, J, N, fun _ => some (.long r)) :=
  g_meth (lv := fun ad => [(0, .ref (ad a0)), (1, .long p1), (3, .long p3)]) (by decide) (fun _ => Nat.le_of_ble_eq_true rfl) (fun _ => rfl) (fun X ad C => g_lv [0, 1, 2] rfl (w_Po_valueAtMinus_0 C ha0 h))
theorem d_Po_divideByRoot_0 : decode c_Po_divideByRoot 0 = .ok (.lconst 0, 1) := by decide +kernel
theorem d_Po_divideByRoot_1 : decode c_Po_divideByRoot 1 = .ok (.lstore 5, 2) := by decide +kernel
theorem d_Po_divideByRoot_3 : decode c_Po_divideByRoot 3 = .ok (.bipush 6, 2) := by decide +kernel
theorem d_Po_divideByRoot_5 : decode c_Po_divideByRoot 5 = .ok (.istore 7, 2) := by decide +kernel
theorem d_Po_divideByRoot_7 : decode c_Po_divideByRoot 7 = .ok (.iload 7, 2) := by decide +kernel
theorem d_Po_divideByRoot_9 : decode c_Po_divideByRoot 9 = .ok (.ifCond .lt 44, 3) := by decide +kernel
theorem d_Po_divideByRoot_12 : decode c_Po_divideByRoot 12 = .ok (.lload_n 3, 1) := by decide +kernel
theorem d_Po_divideByRoot_13 : decode c_Po_divideByRoot 13 = .ok (.lconst 0, 1) := by decide +kernel
theorem d_Po_divideByRoot_14 : decode c_Po_divideByRoot 14 = .ok (.lcmp, 1) := by decide +kernel
theorem d_Po_divideByRoot_15 : decode c_Po_divideByRoot 15 = .ok (.ifCond .eq 38, 3) := by decide +kernel
theorem d_Po_divideByRoot_18 : decode c_Po_divideByRoot 18 = .ok (.aload_n 0, 1) := by decide +kernel
theorem d_Po_divideByRoot_19 : decode c_Po_divideByRoot 19 = .ok (.getfield 9, 3) := by decide +kernel
theorem d_Po_divideByRoot_22 : decode c_Po_divideByRoot 22 = .ok (.iload 7, 2) := by decide +kernel
theorem d_Po_divideByRoot_24 : decode c_Po_divideByRoot 24 = .ok (.laload, 1) := by decide +kernel
theorem d_Po_divideByRoot_25 : decode c_Po_divideByRoot 25 = .ok (.lload_n 1, 1) := by decide +kernel
theorem d_Po_divideByRoot_26 : decode c_Po_divideByRoot 26 = .ok (.lload 5, 2) := by decide +kernel
theorem d_Po_divideByRoot_28 : decode c_Po_divideByRoot 28 = .ok (.lmul, 1) := by decide +kernel
theorem d_Po_divideByRoot_29 : decode c_Po_divideByRoot 29 = .ok (.lsub, 1) := by decide +kernel
theorem d_Po_divideByRoot_30 : decode c_Po_divideByRoot 30 = .ok (.lload_n 3, 1) := by decide +kernel
theorem d_Po_divideByRoot_31 : decode c_Po_divideByRoot 31 = .ok (.ldiv, 1) := by decide +kernel
theorem d_Po_divideByRoot_32 : decode c_Po_divideByRoot 32 = .ok (.lstore 8, 2) := by decide +kernel
theorem d_Po_divideByRoot_34 : decode c_Po_divideByRoot 34 = .ok (.aload_n 0, 1) := by decide +kernel
theorem d_Po_divideByRoot_35 : decode c_Po_divideByRoot 35 = .ok (.getfield 9, 3) := by decide +kernel
theorem d_Po_divideByRoot_38 : decode c_Po_divideByRoot 38 = .ok (.iload 7, 2) := by decide +kernel
theorem d_Po_divideByRoot_40 : decode c_Po_divideByRoot 40 = .ok (.lload 5, 2) := by decide +kernel
theorem d_Po_divideByRoot_42 : decode c_Po_divideByRoot 42 = .ok (.lastore, 1) := by decide +kernel
theorem d_Po_divideByRoot_43 : decode c_Po_divideByRoot 43 = .ok (.lload 8, 2) := by decide +kernel
theorem d_Po_divideByRoot_45 : decode c_Po_divideByRoot 45 = .ok (.lstore 5, 2) := by decide +kernel
theorem d_Po_divideByRoot_47 : decode c_Po_divideByRoot 47 = .ok (.iinc 7 (-1), 3) := by decide +kernel
theorem d_Po_divideByRoot_50 : decode c_Po_divideByRoot 50 = .ok (.goto (-43), 3) := by decide +kernel
theorem d_Po_divideByRoot_53 : decode c_Po_divideByRoot 53 = .ok (.return_, 1) := by decide +kernel
set_option maxRecDepth 20000 in
theorem w_Po_divideByRoot_7b {X : HX} {ad : Nat → Nat} {I : HI} {J : HJ} {N : HN} {r : HJ} {k7 : HJ → Int64 → Int32 → Option (HJ)} {a0 : Nat} {p1 : Int64} {p3 : Int64} {x5 : Int64} {x7 : Int32} (C : Cx X c_Po_divideByRoot RX6 10 none rm_Po_divideByRoot) (ha0 : gk Tc nC a0 (0, 6))
    (hk7 : ∀ (J : HJ) (x5 : Int64) (x7 : Int32), k7 J x5 x7 = some r → G Tc X ad nC 0 0 I J N (gE X Tc ad nC (I, r, N, fun _ => none)) 7 10 [(0, .ref (ad a0)), (1, .long p1), (3, .long p3), (5, .long x5), (7, .int x7)] [])
    (h : Po_divideByRoot_7b N a0 p1 p3 k7 J x5 x7 = some r) : G Tc X ad nC 0 0 I J N (gE X Tc ad nC (I, r, N, fun _ => none)) 7 10 [(0, .ref (ad a0)), (1, .long p1), (3, .long p3), (5, .long x5), (7, .int x7)] [] := by
  refine g_iload (pc := 7) C d_Po_divideByRoot_7 4 rfl ?_
  refine g_if_lt (pc := 9) C 53 d_Po_divideByRoot_9 rfl (fun e1 => ?_) (fun e1 => ?_)
  · have h := o_pos e1 h
    obtain rfl := o_ret h
    exact g_vret (pc := 53) C d_Po_divideByRoot_53
  · have h := o_neg e1 h
    refine g_lload_n (pc := 12) C d_Po_divideByRoot_12 rfl 2 rfl ?_
    refine g_lconst (pc := 13) C (0 : Int64) d_Po_divideByRoot_13 (by decide) ?_
    refine g_lcmp_eq (pc := 14) C 53 d_Po_divideByRoot_14 d_Po_divideByRoot_15 rfl (fun e2 => ?_) (fun e2 => ?_)
    · have h := o_pos e2 h
      obtain rfl := o_ret h
      exact g_vret (pc := 53) C d_Po_divideByRoot_53
    · have h := o_neg e2 h
      refine g_aload_n (pc := 18) C d_Po_divideByRoot_18 rfl 0 rfl ?_
      obtain ⟨b3, hnb3, hb3, h⟩ := o_ra h
      refine g_get (pc := 19) (k := 0) (v := va_rf ((N a0 0).map ad)) C gcX6 inX6 (by decide) fl_Po_9 ha0 rfl d_Po_divideByRoot_19 ?_
      refine g_top (g_rf hnb3) ?_
      refine g_iload (pc := 22) C d_Po_divideByRoot_22 4 rfl ?_
      obtain ⟨hi4, h⟩ := o_gd h
      refine g_lald (pc := 24) C hb3 hi4 d_Po_divideByRoot_24 ?_
      refine g_lload_n (pc := 25) C d_Po_divideByRoot_25 rfl 1 rfl ?_
      refine g_lload (pc := 26) C d_Po_divideByRoot_26 3 rfl ?_
      refine g_lmul (pc := 28) C d_Po_divideByRoot_28 ?_
      refine g_lsub (pc := 29) C d_Po_divideByRoot_29 ?_
      refine g_lload_n (pc := 30) C d_Po_divideByRoot_30 rfl 2 rfl ?_
      obtain ⟨hz5, h⟩ := o_gd h
      refine g_ldiv (pc := 31) C d_Po_divideByRoot_31 (of_decide_eq_true hz5) ?_
      obtain ⟨v6, ev6, h⟩ := o_bd h
      refine g_topl ev6 ?_
      refine g_lstore (pc := 32) (lv' := [(8, .long v6), (0, .ref (ad a0)), (1, .long p1), (3, .long p3), (5, .long x5), (7, .int x7)]) C d_Po_divideByRoot_32 (by decide) rfl ?_
      refine g_aload_n (pc := 34) C d_Po_divideByRoot_34 rfl 1 rfl ?_
      obtain ⟨b7, hnb7, hb7, h⟩ := o_ra h
      refine g_get (pc := 35) (k := 0) (v := va_rf ((N a0 0).map ad)) C gcX6 inX6 (by decide) fl_Po_9 ha0 rfl d_Po_divideByRoot_35 ?_
      refine g_top (g_rf hnb7) ?_
      refine g_iload (pc := 38) C d_Po_divideByRoot_38 5 rfl ?_
      refine g_lload (pc := 40) C d_Po_divideByRoot_40 4 rfl ?_
      obtain ⟨hi8, h⟩ := o_gd h
      refine g_last (pc := 42) C hb7 hi8 d_Po_divideByRoot_42 ?_
      obtain ⟨J9, eJ9, h⟩ := o_bd h
      rw [← eJ9]
      refine g_lload (pc := 43) C d_Po_divideByRoot_43 0 rfl ?_
      refine g_lstore (pc := 45) (lv' := [(5, .long v6), (8, .long v6), (0, .ref (ad a0)), (1, .long p1), (3, .long p3), (7, .int x7)]) C d_Po_divideByRoot_45 (by decide) rfl ?_
      refine g_iinc (pc := 47) (q := 5) (lv' := [(7, .int (x7 + (-1))), (5, .long v6), (8, .long v6), (0, .ref (ad a0)), (1, .long p1), (3, .long p3)]) C d_Po_divideByRoot_47 rfl rfl (by decide) rfl ?_
      refine g_goto (pc := 50) C 7 d_Po_divideByRoot_50 rfl ?_
      refine g_lv [3, 4, 5, 1, 0] rfl ?_
      exact hk7 _ _ _ h
set_option maxRecDepth 20000 in
theorem w_Po_divideByRoot_7 {X : HX} {ad : Nat → Nat} {I : HI} {N : HN} {r : HJ} {a0 : Nat} {p1 : Int64} {p3 : Int64} (C : Cx X c_Po_divideByRoot RX6 10 none rm_Po_divideByRoot) (ha0 : gk Tc nC a0 (0, 6)) : ∀ (n : Nat) (J : HJ) (x5 : Int64) (x7 : Int32), Po_divideByRoot_7 N a0 p1 p3 n J x5 x7 = some r → G Tc X ad nC 0 0 I J N (gE X Tc ad nC (I, r, N, fun _ => none)) 7 10 [(0, .ref (ad a0)), (1, .long p1), (3, .long p3), (5, .long x5), (7, .int x7)] [] := by
  intro n
  induction n with
  | zero => intro J x5 x7 h; cases h
  | succ n ih => intro J x5 x7 h; exact w_Po_divideByRoot_7b C ha0 ih h
set_option maxRecDepth 20000 in
theorem w_Po_divideByRoot_0 {X : HX} {ad : Nat → Nat} {I : HI} {J : HJ} {N : HN} {r : HJ} {a0 : Nat} {p1 : Int64} {p3 : Int64} (C : Cx X c_Po_divideByRoot RX6 10 none rm_Po_divideByRoot) (ha0 : gk Tc nC a0 (0, 6))
    (h : Po_divideByRoot_0 N a0 p1 p3 J = some r) : G Tc X ad nC 0 0 I J N (gE X Tc ad nC (I, r, N, fun _ => none)) 0 10 [(0, .ref (ad a0)), (1, .long p1), (3, .long p3)] [] := by
  refine g_lconst (pc := 0) C (0 : Int64) d_Po_divideByRoot_0 (by decide) ?_
  refine g_lstore (pc := 1) (lv' := [(5, .long (0 : Int64)), (0, .ref (ad a0)), (1, .long p1), (3, .long p3)]) C d_Po_divideByRoot_1 (by decide) rfl ?_
  refine g_bipush (pc := 3) C (6 : Int32) d_Po_divideByRoot_3 (by decide) ?_
  refine g_istore (pc := 5) (lv' := [(7, .int (6 : Int32)), (5, .long (0 : Int64)), (0, .ref (ad a0)), (1, .long p1), (3, .long p3)]) C d_Po_divideByRoot_5 (by decide) rfl ?_
  refine g_lv [2, 3, 4, 1, 0] rfl ?_
  exact w_Po_divideByRoot_7 C ha0 _ _ _ _ h
set_option maxRecDepth 20000 in
theorem k_Po_divideByRoot (l : Launch) {I : HI} {J : HJ} {N : HN} {a0 : Nat} {p1 : Int64} {p3 : Int64} {r : HJ} (ha0 : gk Tc nC a0 (0, 6)) (h : Po_divideByRoot N a0 p1 p3 J = some r) : gM l y_Po_divideByRoot c_Po_divideByRoot 10 none rm_Po_divideByRoot Tc nC I J N (fun ad => [.ref (ad a0), .long p1, .long p3]) (I, r, N, fun _ => none) :=
  g_meth (lv := fun ad => [(0, .ref (ad a0)), (1, .long p1), (3, .long p3)]) (by decide) (fun _ => Nat.le_of_ble_eq_true rfl) (fun _ => rfl) (fun X ad C => g_lv [0, 1, 2] rfl (w_Po_divideByRoot_0 C ha0 h))
theorem d_Re_halfValue_0 : decode c_Re_halfValue 0 = .ok (.aload_n 0, 1) := by decide +kernel
theorem d_Re_halfValue_1 : decode c_Re_halfValue 1 = .ok (.getfield 10, 3) := by decide +kernel
theorem d_Re_halfValue_4 : decode c_Re_halfValue 4 = .ok (.aload_n 1, 1) := by decide +kernel
theorem d_Re_halfValue_5 : decode c_Re_halfValue 5 = .ok (.iload_n 2, 1) := by decide +kernel
theorem d_Re_halfValue_6 : decode c_Re_halfValue 6 = .ok (.invokevirtual 43, 3) := by decide +kernel
theorem d_Re_halfValue_9 : decode c_Re_halfValue 9 = .ok (.aload_n 0, 1) := by decide +kernel
theorem d_Re_halfValue_10 : decode c_Re_halfValue 10 = .ok (.getfield 10, 3) := by decide +kernel
theorem d_Re_halfValue_13 : decode c_Re_halfValue 13 = .ok (.iload_n 3, 1) := by decide +kernel
theorem d_Re_halfValue_14 : decode c_Re_halfValue 14 = .ok (.iload_n 3, 1) := by decide +kernel
theorem d_Re_halfValue_15 : decode c_Re_halfValue 15 = .ok (.imul, 1) := by decide +kernel
theorem d_Re_halfValue_16 : decode c_Re_halfValue 16 = .ok (.i2l, 1) := by decide +kernel
theorem d_Re_halfValue_17 : decode c_Re_halfValue 17 = .ok (.iload 4, 2) := by decide +kernel
theorem d_Re_halfValue_19 : decode c_Re_halfValue 19 = .ok (.iload 4, 2) := by decide +kernel
theorem d_Re_halfValue_21 : decode c_Re_halfValue 21 = .ok (.imul, 1) := by decide +kernel
theorem d_Re_halfValue_22 : decode c_Re_halfValue 22 = .ok (.i2l, 1) := by decide +kernel
theorem d_Re_halfValue_23 : decode c_Re_halfValue 23 = .ok (.invokevirtual 47, 3) := by decide +kernel
theorem d_Re_halfValue_26 : decode c_Re_halfValue 26 = .ok (.lreturn, 1) := by decide +kernel
set_option maxRecDepth 20000 in
theorem w_Re_halfValue_0 {X : HX} {ad : Nat → Nat} {I : HI} {J : HJ} {N : HN} {r : HJ × Int64} {a0 : Nat} {a1 : Nat} {p2 : Int32} {p3 : Int32} {p4 : Int32} (C : Cx X c_Re_halfValue RX7 5 (some .long) rm_Re_halfValue) (ha0 : gk Tc nC a0 (0, 7)) (ha1 : gk Tc nC a1 (0, 6))
    (h : Re_halfValue_0 N a0 a1 p2 p3 p4 J = some r) : G Tc X ad nC 0 0 I J N (gE X Tc ad nC (I, r.1, N, fun _ => some (.long r.2))) 0 5 [(0, .ref (ad a0)), (1, .ref (ad a1)), (2, .int p2), (3, .int p3), (4, .int p4)] [] := by
  refine g_aload_n (pc := 0) C d_Re_halfValue_0 rfl 0 rfl ?_
  obtain ⟨b1, hnb1, hb1, h⟩ := o_rq h
  refine g_get (pc := 1) (k := 0) (v := va_rf ((N a0 0).map ad)) C gcX7 inX7 (by decide) fl_Re_10 ha0 rfl d_Re_halfValue_1 ?_
  refine g_top (g_rf hnb1) ?_
  refine g_aload_n (pc := 4) C d_Re_halfValue_4 rfl 1 rfl ?_
  refine g_iload_n (pc := 5) C d_Re_halfValue_5 rfl 2 rfl ?_
  obtain ⟨J2, hc3, h⟩ := o_bn1 h
  refine g_V (pc := 6) (rest := []) C (k_Po_loadEveryOther (xl X) hb1 ha1 hc3) sm_Po_loadEveryOther ml_Re_43 im_Po_loadEveryOther se_Po_loadEveryOther gcX6 rfl hb1 ⟨rfl, rfl, Nat.le_of_ble_eq_true rfl, Nat.le_of_ble_eq_true rfl⟩ ⟨Nat.zero_le _, Nat.zero_le _⟩ rfl rfl (Nat.le_of_ble_eq_true rfl) d_Re_halfValue_6 [] rfl ?_
  refine g_aload_n (pc := 9) C d_Re_halfValue_9 rfl 0 rfl ?_
  obtain ⟨b4, hnb4, hb4, h⟩ := o_rq h
  refine g_get (pc := 10) (k := 0) (v := va_rf ((N a0 0).map ad)) C gcX7 inX7 (by decide) fl_Re_10 ha0 rfl d_Re_halfValue_10 ?_
  refine g_top (g_rf hnb4) ?_
  refine g_iload_n (pc := 13) C d_Re_halfValue_13 rfl 3 rfl ?_
  refine g_iload_n (pc := 14) C d_Re_halfValue_14 rfl 3 rfl ?_
  refine g_imul (pc := 15) C d_Re_halfValue_15 ?_
  refine g_i2l (pc := 16) C d_Re_halfValue_16 ?_
  refine g_iload (pc := 17) C d_Re_halfValue_17 4 rfl ?_
  refine g_iload (pc := 19) C d_Re_halfValue_19 4 rfl ?_
  refine g_imul (pc := 21) C d_Re_halfValue_21 ?_
  refine g_i2l (pc := 22) C d_Re_halfValue_22 ?_
  obtain ⟨r5, hc6, h⟩ := o_bn1 h
  refine g_V (pc := 23) (rest := []) C (k_Po_valueAtMinus (xl X) hb4 hc6) sm_Po_valueAtMinus ml_Re_47 im_Po_valueAtMinus se_Po_valueAtMinus gcX6 rfl hb4 ⟨rfl, rfl, Nat.le_of_ble_eq_true rfl, Nat.le_of_ble_eq_true rfl⟩ ⟨Nat.zero_le _, Nat.zero_le _⟩ rfl rfl (Nat.le_of_ble_eq_true rfl) d_Re_halfValue_23 [.long r5] rfl ?_
  obtain rfl := o_ret h
  exact g_lret (pc := 26) C d_Re_halfValue_26
set_option maxRecDepth 20000 in
theorem k_Re_halfValue (l : Launch) {I : HI} {J : HJ} {N : HN} {a0 : Nat} {a1 : Nat} {p2 : Int32} {p3 : Int32} {p4 : Int32} {r : HJ × Int64} (ha0 : gk Tc nC a0 (0, 7)) (ha1 : gk Tc nC a1 (0, 6)) (h : Re_halfValue N a0 a1 p2 p3 p4 J = some r) : gM l y_Re_halfValue c_Re_halfValue 5 (some .long) rm_Re_halfValue Tc nC I J N (fun ad => [.ref (ad a0), .ref (ad a1), .int p2, .int p3, .int p4]) (I, r.1, N, fun _ => some (.long r.2)) :=
  g_meth (lv := fun ad => [(0, .ref (ad a0)), (1, .ref (ad a1)), (2, .int p2), (3, .int p3), (4, .int p4)]) (by decide) (fun _ => Nat.le_of_ble_eq_true rfl) (fun _ => rfl) (fun X ad C => g_lv [0, 1, 2, 3, 4] rfl (w_Re_halfValue_0 C ha0 ha1 h))
theorem d_Re_workOut_0 : decode c_Re_workOut 0 = .ok (.aload_n 1, 1) := by decide +kernel
theorem d_Re_workOut_1 : decode c_Re_workOut 1 = .ok (.getfield 23, 3) := by decide +kernel
theorem d_Re_workOut_4 : decode c_Re_workOut 4 = .ok (.iconst 1, 1) := by decide +kernel
theorem d_Re_workOut_5 : decode c_Re_workOut 5 = .ok (.invokevirtual 28, 3) := by decide +kernel
theorem d_Re_workOut_8 : decode c_Re_workOut 8 = .ok (.istore 4, 2) := by decide +kernel
theorem d_Re_workOut_10 : decode c_Re_workOut 10 = .ok (.aload_n 0, 1) := by decide +kernel
theorem d_Re_workOut_11 : decode c_Re_workOut 11 = .ok (.iload 4, 2) := by decide +kernel
theorem d_Re_workOut_13 : decode c_Re_workOut 13 = .ok (.ifCond .eq 10, 3) := by decide +kernel
theorem d_Re_workOut_16 : decode c_Re_workOut 16 = .ok (.aload_n 1, 1) := by decide +kernel
theorem d_Re_workOut_17 : decode c_Re_workOut 17 = .ok (.getfield 32, 3) := by decide +kernel
theorem d_Re_workOut_20 : decode c_Re_workOut 20 = .ok (.goto 7, 3) := by decide +kernel
theorem d_Re_workOut_23 : decode c_Re_workOut 23 = .ok (.aload_n 1, 1) := by decide +kernel
theorem d_Re_workOut_24 : decode c_Re_workOut 24 = .ok (.getfield 23, 3) := by decide +kernel
theorem d_Re_workOut_27 : decode c_Re_workOut 27 = .ok (.iconst 0, 1) := by decide +kernel
theorem d_Re_workOut_28 : decode c_Re_workOut 28 = .ok (.iload_n 2, 1) := by decide +kernel
theorem d_Re_workOut_29 : decode c_Re_workOut 29 = .ok (.iload_n 3, 1) := by decide +kernel
theorem d_Re_workOut_30 : decode c_Re_workOut 30 = .ok (.invokevirtual 35, 3) := by decide +kernel
theorem d_Re_workOut_33 : decode c_Re_workOut 33 = .ok (.iload_n 3, 1) := by decide +kernel
theorem d_Re_workOut_34 : decode c_Re_workOut 34 = .ok (.i2l, 1) := by decide +kernel
theorem d_Re_workOut_35 : decode c_Re_workOut 35 = .ok (.lmul, 1) := by decide +kernel
theorem d_Re_workOut_36 : decode c_Re_workOut 36 = .ok (.lstore 5, 2) := by decide +kernel
theorem d_Re_workOut_38 : decode c_Re_workOut 38 = .ok (.aload_n 0, 1) := by decide +kernel
theorem d_Re_workOut_39 : decode c_Re_workOut 39 = .ok (.iload 4, 2) := by decide +kernel
theorem d_Re_workOut_41 : decode c_Re_workOut 41 = .ok (.ifCond .eq 10, 3) := by decide +kernel
theorem d_Re_workOut_44 : decode c_Re_workOut 44 = .ok (.aload_n 1, 1) := by decide +kernel
theorem d_Re_workOut_45 : decode c_Re_workOut 45 = .ok (.getfield 23, 3) := by decide +kernel
theorem d_Re_workOut_48 : decode c_Re_workOut 48 = .ok (.goto 7, 3) := by decide +kernel
theorem d_Re_workOut_51 : decode c_Re_workOut 51 = .ok (.aload_n 1, 1) := by decide +kernel
theorem d_Re_workOut_52 : decode c_Re_workOut 52 = .ok (.getfield 32, 3) := by decide +kernel
theorem d_Re_workOut_55 : decode c_Re_workOut 55 = .ok (.iconst 1, 1) := by decide +kernel
theorem d_Re_workOut_56 : decode c_Re_workOut 56 = .ok (.iload_n 2, 1) := by decide +kernel
theorem d_Re_workOut_57 : decode c_Re_workOut 57 = .ok (.iload_n 3, 1) := by decide +kernel
theorem d_Re_workOut_58 : decode c_Re_workOut 58 = .ok (.invokevirtual 35, 3) := by decide +kernel
theorem d_Re_workOut_61 : decode c_Re_workOut 61 = .ok (.iload_n 2, 1) := by decide +kernel
theorem d_Re_workOut_62 : decode c_Re_workOut 62 = .ok (.i2l, 1) := by decide +kernel
theorem d_Re_workOut_63 : decode c_Re_workOut 63 = .ok (.lmul, 1) := by decide +kernel
theorem d_Re_workOut_64 : decode c_Re_workOut 64 = .ok (.lstore 7, 2) := by decide +kernel
theorem d_Re_workOut_66 : decode c_Re_workOut 66 = .ok (.iload 4, 2) := by decide +kernel
theorem d_Re_workOut_68 : decode c_Re_workOut 68 = .ok (.ifCond .eq 8, 3) := by decide +kernel
theorem d_Re_workOut_71 : decode c_Re_workOut 71 = .ok (.lload 7, 2) := by decide +kernel
theorem d_Re_workOut_73 : decode c_Re_workOut 73 = .ok (.goto 5, 3) := by decide +kernel
theorem d_Re_workOut_76 : decode c_Re_workOut 76 = .ok (.lload 5, 2) := by decide +kernel
theorem d_Re_workOut_78 : decode c_Re_workOut 78 = .ok (.lconst 0, 1) := by decide +kernel
theorem d_Re_workOut_79 : decode c_Re_workOut 79 = .ok (.lcmp, 1) := by decide +kernel
theorem d_Re_workOut_80 : decode c_Re_workOut 80 = .ok (.ifCond .ne 5, 3) := by decide +kernel
theorem d_Re_workOut_83 : decode c_Re_workOut 83 = .ok (.iconst 0, 1) := by decide +kernel
theorem d_Re_workOut_84 : decode c_Re_workOut 84 = .ok (.ireturn, 1) := by decide +kernel
theorem d_Re_workOut_85 : decode c_Re_workOut 85 = .ok (.iload 4, 2) := by decide +kernel
theorem d_Re_workOut_87 : decode c_Re_workOut 87 = .ok (.ifCond .eq 18, 3) := by decide +kernel
theorem d_Re_workOut_90 : decode c_Re_workOut 90 = .ok (.aload_n 0, 1) := by decide +kernel
theorem d_Re_workOut_91 : decode c_Re_workOut 91 = .ok (.getfield 19, 3) := by decide +kernel
theorem d_Re_workOut_94 : decode c_Re_workOut 94 = .ok (.lload 5, 2) := by decide +kernel
theorem d_Re_workOut_96 : decode c_Re_workOut 96 = .ok (.lneg, 1) := by decide +kernel
theorem d_Re_workOut_97 : decode c_Re_workOut 97 = .ok (.lload 7, 2) := by decide +kernel
theorem d_Re_workOut_99 : decode c_Re_workOut 99 = .ok (.invokevirtual 39, 3) := by decide +kernel
theorem d_Re_workOut_102 : decode c_Re_workOut 102 = .ok (.goto 14, 3) := by decide +kernel
theorem d_Re_workOut_105 : decode c_Re_workOut 105 = .ok (.aload_n 0, 1) := by decide +kernel
theorem d_Re_workOut_106 : decode c_Re_workOut 106 = .ok (.getfield 19, 3) := by decide +kernel
theorem d_Re_workOut_109 : decode c_Re_workOut 109 = .ok (.lload 7, 2) := by decide +kernel
theorem d_Re_workOut_111 : decode c_Re_workOut 111 = .ok (.lload 5, 2) := by decide +kernel
theorem d_Re_workOut_113 : decode c_Re_workOut 113 = .ok (.invokevirtual 39, 3) := by decide +kernel
theorem d_Re_workOut_116 : decode c_Re_workOut 116 = .ok (.iconst 1, 1) := by decide +kernel
theorem d_Re_workOut_117 : decode c_Re_workOut 117 = .ok (.ireturn, 1) := by decide +kernel
set_option maxRecDepth 20000 in
theorem w_Re_workOut_78 {X : HX} {ad : Nat → Nat} {I : HI} {J : HJ} {N : HN} {r : HJ × Int32} {a0 : Nat} {a1 : Nat} {p2 : Int32} {p3 : Int32} {x4 : Int32} {x5 : Int64} {x7 : Int64} {s0 : Int64} (C : Cx X c_Re_workOut RX7 9 (some .boolean) rm_Re_workOut) (ha0 : gk Tc nC a0 (0, 7)) (ha1 : gk Tc nC a1 (0, 5))
    (h : Re_workOut_78 N a0 a1 p2 p3 J x4 x5 x7 s0 = some r) : G Tc X ad nC 0 0 I J N (gE X Tc ad nC (I, r.1, N, fun _ => some (.int r.2))) 78 9 [(0, .ref (ad a0)), (4, .int x4), (5, .long x5), (7, .long x7)] [.long s0] := by
  refine g_lconst (pc := 78) C (0 : Int64) d_Re_workOut_78 (by decide) ?_
  refine g_lcmp_ne (pc := 79) C 85 d_Re_workOut_79 d_Re_workOut_80 rfl (fun e1 => ?_) (fun e1 => ?_)
  · have h := o_neg e1 h
    refine g_iload (pc := 85) C d_Re_workOut_85 1 rfl ?_
    refine g_if_eq (pc := 87) C 105 d_Re_workOut_87 rfl (fun e2 => ?_) (fun e2 => ?_)
    · have h := o_pos e2 h
      refine g_aload_n (pc := 105) C d_Re_workOut_105 rfl 0 rfl ?_
      obtain ⟨b3, hnb3, hb3, h⟩ := o_rq h
      refine g_get (pc := 106) (k := 1) (v := va_rf ((N a0 1).map ad)) C gcX7 inX7 (by decide) fl_Re_19 ha0 rfl d_Re_workOut_106 ?_
      refine g_top (g_rf hnb3) ?_
      refine g_lload (pc := 109) C d_Re_workOut_109 3 rfl ?_
      refine g_lload (pc := 111) C d_Re_workOut_111 2 rfl ?_
      obtain ⟨J4, hc5, h⟩ := o_bn1 h
      refine g_V (pc := 113) (rest := []) C (k_Fr_put (xl X) hb3 hc5) sm_Fr_put ml_Re_39 im_Fr_put se_Fr_put gcX2 rfl hb3 ⟨rfl, rfl, Nat.le_of_ble_eq_true rfl, Nat.le_of_ble_eq_true rfl⟩ ⟨Nat.zero_le _, Nat.zero_le _⟩ rfl rfl (Nat.le_of_ble_eq_true rfl) d_Re_workOut_113 [] rfl ?_
      refine g_iconst (pc := 116) C (1 : Int32) d_Re_workOut_116 (by decide) ?_
      obtain rfl := o_ret h
      exact g_zret (pc := 117) C zn_1 d_Re_workOut_117
    · have h := o_neg e2 h
      refine g_aload_n (pc := 90) C d_Re_workOut_90 rfl 0 rfl ?_
      obtain ⟨b6, hnb6, hb6, h⟩ := o_rq h
      refine g_get (pc := 91) (k := 1) (v := va_rf ((N a0 1).map ad)) C gcX7 inX7 (by decide) fl_Re_19 ha0 rfl d_Re_workOut_91 ?_
      refine g_top (g_rf hnb6) ?_
      refine g_lload (pc := 94) C d_Re_workOut_94 2 rfl ?_
      refine g_lneg (pc := 96) C d_Re_workOut_96 ?_
      refine g_lload (pc := 97) C d_Re_workOut_97 3 rfl ?_
      obtain ⟨J7, hc8, h⟩ := o_bn1 h
      refine g_V (pc := 99) (rest := []) C (k_Fr_put (xl X) hb6 hc8) sm_Fr_put ml_Re_39 im_Fr_put se_Fr_put gcX2 rfl hb6 ⟨rfl, rfl, Nat.le_of_ble_eq_true rfl, Nat.le_of_ble_eq_true rfl⟩ ⟨Nat.zero_le _, Nat.zero_le _⟩ rfl rfl (Nat.le_of_ble_eq_true rfl) d_Re_workOut_99 [] rfl ?_
      refine g_goto (pc := 102) C 116 d_Re_workOut_102 rfl ?_
      refine g_iconst (pc := 116) C (1 : Int32) d_Re_workOut_116 (by decide) ?_
      obtain rfl := o_ret h
      exact g_zret (pc := 117) C zn_1 d_Re_workOut_117
  · have h := o_pos e1 h
    refine g_iconst (pc := 83) C (0 : Int32) d_Re_workOut_83 (by decide) ?_
    obtain rfl := o_ret h
    exact g_zret (pc := 84) C zn_0 d_Re_workOut_84
set_option maxRecDepth 20000 in
theorem w_Re_workOut_55 {X : HX} {ad : Nat → Nat} {I : HI} {J : HJ} {N : HN} {r : HJ × Int32} {a0 : Nat} {a1 : Nat} {p2 : Int32} {p3 : Int32} {x4 : Int32} {x5 : Int64} {bs0 : Nat} {bs1 : Nat} (C : Cx X c_Re_workOut RX7 9 (some .boolean) rm_Re_workOut) (ha0 : gk Tc nC a0 (0, 7)) (ha1 : gk Tc nC a1 (0, 5)) (hbs0 : gk Tc nC bs0 (0, 7)) (hbs1 : gk Tc nC bs1 (0, 6))
    (h : Re_workOut_55 N a0 a1 p2 p3 J x4 x5 bs0 bs1 = some r) : G Tc X ad nC 0 0 I J N (gE X Tc ad nC (I, r.1, N, fun _ => some (.int r.2))) 55 9 [(0, .ref (ad a0)), (2, .int p2), (3, .int p3), (4, .int x4), (5, .long x5)] [.ref (ad bs1), .ref (ad bs0)] := by
  refine g_iconst (pc := 55) C (1 : Int32) d_Re_workOut_55 (by decide) ?_
  refine g_iload_n (pc := 56) C d_Re_workOut_56 rfl 1 rfl ?_
  refine g_iload_n (pc := 57) C d_Re_workOut_57 rfl 2 rfl ?_
  obtain ⟨J1, r2, hc3, h⟩ := o_bn2 h
  refine g_V (pc := 58) (rest := []) C (k_Re_halfValue (xl X) hbs0 hbs1 hc3) sm_Re_halfValue ml_Re_35 im_Re_halfValue se_Re_halfValue gcX7 rfl hbs0 ⟨rfl, rfl, Nat.le_of_ble_eq_true rfl, Nat.le_of_ble_eq_true rfl⟩ ⟨Nat.zero_le _, Nat.zero_le _⟩ rfl rfl (Nat.le_of_ble_eq_true rfl) d_Re_workOut_58 [.long r2] rfl ?_
  refine g_iload_n (pc := 61) C d_Re_workOut_61 rfl 1 rfl ?_
  refine g_i2l (pc := 62) C d_Re_workOut_62 ?_
  refine g_lmul (pc := 63) C d_Re_workOut_63 ?_
  obtain ⟨v4, ev4, h⟩ := o_bd h
  refine g_topl ev4 ?_
  refine g_lstore (pc := 64) (lv' := [(7, .long v4), (0, .ref (ad a0)), (2, .int p2), (3, .int p3), (4, .int x4), (5, .long x5)]) C d_Re_workOut_64 (by decide) rfl ?_
  refine g_iload (pc := 66) C d_Re_workOut_66 4 rfl ?_
  refine g_if_eq (pc := 68) C 76 d_Re_workOut_68 rfl (fun e5 => ?_) (fun e5 => ?_)
  · have h := o_pos e5 h
    refine g_lload (pc := 76) C d_Re_workOut_76 5 rfl ?_
    refine g_lv [1, 4, 5, 0] rfl ?_
    exact w_Re_workOut_78 C ha0 ha1 h
  · have h := o_neg e5 h
    refine g_lload (pc := 71) C d_Re_workOut_71 0 rfl ?_
    refine g_goto (pc := 73) C 78 d_Re_workOut_73 rfl ?_
    refine g_lv [1, 4, 5, 0] rfl ?_
    exact w_Re_workOut_78 C ha0 ha1 h
set_option maxRecDepth 20000 in
theorem w_Re_workOut_27 {X : HX} {ad : Nat → Nat} {I : HI} {J : HJ} {N : HN} {r : HJ × Int32} {a0 : Nat} {a1 : Nat} {p2 : Int32} {p3 : Int32} {x4 : Int32} {bs0 : Nat} {bs1 : Nat} (C : Cx X c_Re_workOut RX7 9 (some .boolean) rm_Re_workOut) (ha0 : gk Tc nC a0 (0, 7)) (ha1 : gk Tc nC a1 (0, 5)) (hbs0 : gk Tc nC bs0 (0, 7)) (hbs1 : gk Tc nC bs1 (0, 6))
    (h : Re_workOut_27 N a0 a1 p2 p3 J x4 bs0 bs1 = some r) : G Tc X ad nC 0 0 I J N (gE X Tc ad nC (I, r.1, N, fun _ => some (.int r.2))) 27 9 [(0, .ref (ad a0)), (1, .ref (ad a1)), (2, .int p2), (3, .int p3), (4, .int x4)] [.ref (ad bs1), .ref (ad bs0)] := by
  refine g_iconst (pc := 27) C (0 : Int32) d_Re_workOut_27 (by decide) ?_
  refine g_iload_n (pc := 28) C d_Re_workOut_28 rfl 2 rfl ?_
  refine g_iload_n (pc := 29) C d_Re_workOut_29 rfl 3 rfl ?_
  obtain ⟨J1, r2, hc3, h⟩ := o_bn2 h
  refine g_V (pc := 30) (rest := []) C (k_Re_halfValue (xl X) hbs0 hbs1 hc3) sm_Re_halfValue ml_Re_35 im_Re_halfValue se_Re_halfValue gcX7 rfl hbs0 ⟨rfl, rfl, Nat.le_of_ble_eq_true rfl, Nat.le_of_ble_eq_true rfl⟩ ⟨Nat.zero_le _, Nat.zero_le _⟩ rfl rfl (Nat.le_of_ble_eq_true rfl) d_Re_workOut_30 [.long r2] rfl ?_
  refine g_iload_n (pc := 33) C d_Re_workOut_33 rfl 3 rfl ?_
  refine g_i2l (pc := 34) C d_Re_workOut_34 ?_
  refine g_lmul (pc := 35) C d_Re_workOut_35 ?_
  obtain ⟨v4, ev4, h⟩ := o_bd h
  refine g_topl ev4 ?_
  refine g_lstore (pc := 36) (lv' := [(5, .long v4), (0, .ref (ad a0)), (1, .ref (ad a1)), (2, .int p2), (3, .int p3), (4, .int x4)]) C d_Re_workOut_36 (by decide) rfl ?_
  refine g_aload_n (pc := 38) C d_Re_workOut_38 rfl 1 rfl ?_
  refine g_iload (pc := 39) C d_Re_workOut_39 5 rfl ?_
  refine g_if_eq (pc := 41) C 51 d_Re_workOut_41 rfl (fun e5 => ?_) (fun e5 => ?_)
  · have h := o_pos e5 h
    refine g_aload_n (pc := 51) C d_Re_workOut_51 rfl 2 rfl ?_
    obtain ⟨b6, hnb6, hb6, h⟩ := o_rq h
    refine g_getN (pc := 52) (k := 0) (v := va_rf ((N a1 0).map ad)) C gcX5 inX5 (by decide) fl_Re_32 ha1 rfl d_Re_workOut_52 ?_
    refine g_top (g_rf hnb6) ?_
    refine g_lv [1, 3, 4, 5, 0] rfl ?_
    exact w_Re_workOut_55 C ha0 ha1 ha0 hb6 h
  · have h := o_neg e5 h
    refine g_aload_n (pc := 44) C d_Re_workOut_44 rfl 2 rfl ?_
    obtain ⟨b7, hnb7, hb7, h⟩ := o_rq h
    refine g_getN (pc := 45) (k := 1) (v := va_rf ((N a1 1).map ad)) C gcX5 inX5 (by decide) fl_Re_23 ha1 rfl d_Re_workOut_45 ?_
    refine g_top (g_rf hnb7) ?_
    refine g_goto (pc := 48) C 55 d_Re_workOut_48 rfl ?_
    refine g_lv [1, 3, 4, 5, 0] rfl ?_
    exact w_Re_workOut_55 C ha0 ha1 ha0 hb7 h
set_option maxRecDepth 20000 in
theorem w_Re_workOut_0 {X : HX} {ad : Nat → Nat} {I : HI} {J : HJ} {N : HN} {r : HJ × Int32} {a0 : Nat} {a1 : Nat} {p2 : Int32} {p3 : Int32} (C : Cx X c_Re_workOut RX7 9 (some .boolean) rm_Re_workOut) (ha0 : gk Tc nC a0 (0, 7)) (ha1 : gk Tc nC a1 (0, 5))
    (h : Re_workOut_0 N a0 a1 p2 p3 J = some r) : G Tc X ad nC 0 0 I J N (gE X Tc ad nC (I, r.1, N, fun _ => some (.int r.2))) 0 9 [(0, .ref (ad a0)), (1, .ref (ad a1)), (2, .int p2), (3, .int p3)] [] := by
  refine g_aload_n (pc := 0) C d_Re_workOut_0 rfl 1 rfl ?_
  obtain ⟨b1, hnb1, hb1, h⟩ := o_rq h
  refine g_getN (pc := 1) (k := 1) (v := va_rf ((N a1 1).map ad)) C gcX5 inX5 (by decide) fl_Re_23 ha1 rfl d_Re_workOut_1 ?_
  refine g_top (g_rf hnb1) ?_
  refine g_iconst (pc := 4) C (1 : Int32) d_Re_workOut_4 (by decide) ?_
  obtain ⟨r2, hc3, h⟩ := o_bn1 h
  refine g_V (pc := 5) (rest := []) C (k_Po_isOfParity (xl X) hb1 hc3) sm_Po_isOfParity ml_Re_28 im_Po_isOfParity se_Po_isOfParity gcX6 rfl hb1 ⟨rfl, rfl, Nat.le_of_ble_eq_true rfl, Nat.le_of_ble_eq_true rfl⟩ ⟨Nat.zero_le _, Nat.zero_le _⟩ rfl rfl (Nat.le_of_ble_eq_true rfl) d_Re_workOut_5 [.int r2] rfl ?_
  refine g_istore (pc := 8) (lv' := [(4, .int r2), (0, .ref (ad a0)), (1, .ref (ad a1)), (2, .int p2), (3, .int p3)]) C d_Re_workOut_8 (by decide) rfl ?_
  refine g_aload_n (pc := 10) C d_Re_workOut_10 rfl 1 rfl ?_
  refine g_iload (pc := 11) C d_Re_workOut_11 0 rfl ?_
  refine g_if_eq (pc := 13) C 23 d_Re_workOut_13 rfl (fun e4 => ?_) (fun e4 => ?_)
  · have h := o_pos e4 h
    refine g_aload_n (pc := 23) C d_Re_workOut_23 rfl 2 rfl ?_
    obtain ⟨b5, hnb5, hb5, h⟩ := o_rq h
    refine g_getN (pc := 24) (k := 1) (v := va_rf ((N a1 1).map ad)) C gcX5 inX5 (by decide) fl_Re_23 ha1 rfl d_Re_workOut_24 ?_
    refine g_top (g_rf hnb5) ?_
    refine g_lv [1, 2, 3, 4, 0] rfl ?_
    exact w_Re_workOut_27 C ha0 ha1 ha0 hb5 h
  · have h := o_neg e4 h
    refine g_aload_n (pc := 16) C d_Re_workOut_16 rfl 2 rfl ?_
    obtain ⟨b6, hnb6, hb6, h⟩ := o_rq h
    refine g_getN (pc := 17) (k := 0) (v := va_rf ((N a1 0).map ad)) C gcX5 inX5 (by decide) fl_Re_32 ha1 rfl d_Re_workOut_17 ?_
    refine g_top (g_rf hnb6) ?_
    refine g_goto (pc := 20) C 27 d_Re_workOut_20 rfl ?_
    refine g_lv [1, 2, 3, 4, 0] rfl ?_
    exact w_Re_workOut_27 C ha0 ha1 ha0 hb6 h
set_option maxRecDepth 20000 in
theorem k_Re_workOut (l : Launch) {I : HI} {J : HJ} {N : HN} {a0 : Nat} {a1 : Nat} {p2 : Int32} {p3 : Int32} {r : HJ × Int32} (ha0 : gk Tc nC a0 (0, 7)) (ha1 : gk Tc nC a1 (0, 5)) (h : Re_workOut N a0 a1 p2 p3 J = some r) : gM l y_Re_workOut c_Re_workOut 9 (some .boolean) rm_Re_workOut Tc nC I J N (fun ad => [.ref (ad a0), .ref (ad a1), .int p2, .int p3]) (I, r.1, N, fun _ => some (.int r.2)) :=
  g_meth (lv := fun ad => [(0, .ref (ad a0)), (1, .ref (ad a1)), (2, .int p2), (3, .int p3)]) (by decide) (fun _ => Nat.le_of_ble_eq_true rfl) (fun _ => rfl) (fun X ad C => g_lv [0, 1, 2, 3] rfl (w_Re_workOut_0 C ha0 ha1 h))
theorem d_Sh_isSheet_0 : decode c_Sh_isSheet 0 = .ok (.iload_n 1, 1) := by decide +kernel
theorem d_Sh_isSheet_1 : decode c_Sh_isSheet 1 = .ok (.ifCond .lt 12, 3) := by decide +kernel
theorem d_Sh_isSheet_4 : decode c_Sh_isSheet 4 = .ok (.iload_n 1, 1) := by decide +kernel
theorem d_Sh_isSheet_5 : decode c_Sh_isSheet 5 = .ok (.iconst 3, 1) := by decide +kernel
theorem d_Sh_isSheet_6 : decode c_Sh_isSheet 6 = .ok (.if_icmp .ge 7, 3) := by decide +kernel
theorem d_Sh_isSheet_9 : decode c_Sh_isSheet 9 = .ok (.iconst 1, 1) := by decide +kernel
theorem d_Sh_isSheet_10 : decode c_Sh_isSheet 10 = .ok (.goto 4, 3) := by decide +kernel
theorem d_Sh_isSheet_13 : decode c_Sh_isSheet 13 = .ok (.iconst 0, 1) := by decide +kernel
theorem d_Sh_isSheet_14 : decode c_Sh_isSheet 14 = .ok (.ireturn, 1) := by decide +kernel
set_option maxRecDepth 20000 in
theorem w_Sh_isSheet_0 {X : HX} {ad : Nat → Nat} {I : HI} {J : HJ} {N : HN} {r : Int32} {a0 : Nat} {p1 : Int32} (C : Cx X c_Sh_isSheet RX8 2 (some .boolean) rm_Sh_isSheet) (ha0 : gk Tc nC a0 (0, 8))
    (h : Sh_isSheet_0 a0 p1 = some r) : G Tc X ad nC 0 0 I J N (gE X Tc ad nC (I, J, N, fun _ => some (.int r))) 0 2 [(1, .int p1)] [] := by
  refine g_iload_n (pc := 0) C d_Sh_isSheet_0 rfl 0 rfl ?_
  refine g_if_lt (pc := 1) C 13 d_Sh_isSheet_1 rfl (fun e1 => ?_) (fun e1 => ?_)
  · have h := o_pos e1 h
    refine g_iconst (pc := 13) C (0 : Int32) d_Sh_isSheet_13 (by decide) ?_
    obtain rfl := o_ret h
    exact g_zret (pc := 14) C zn_0 d_Sh_isSheet_14
  · have h := o_neg e1 h
    refine g_iload_n (pc := 4) C d_Sh_isSheet_4 rfl 0 rfl ?_
    refine g_iconst (pc := 5) C (3 : Int32) d_Sh_isSheet_5 (by decide) ?_
    refine g_icmp_ge (pc := 6) C 13 d_Sh_isSheet_6 rfl (fun e2 => ?_) (fun e2 => ?_)
    · have h := o_pos e2 h
      refine g_iconst (pc := 13) C (0 : Int32) d_Sh_isSheet_13 (by decide) ?_
      obtain rfl := o_ret h
      exact g_zret (pc := 14) C zn_0 d_Sh_isSheet_14
    · have h := o_neg e2 h
      refine g_iconst (pc := 9) C (1 : Int32) d_Sh_isSheet_9 (by decide) ?_
      refine g_goto (pc := 10) C 14 d_Sh_isSheet_10 rfl ?_
      obtain rfl := o_ret h
      exact g_zret (pc := 14) C zn_1 d_Sh_isSheet_14
set_option maxRecDepth 20000 in
theorem k_Sh_isSheet (l : Launch) {I : HI} {J : HJ} {N : HN} {a0 : Nat} {p1 : Int32} {r : Int32} (ha0 : gk Tc nC a0 (0, 8)) (h : Sh_isSheet a0 p1 = some r) : gM l y_Sh_isSheet c_Sh_isSheet 2 (some .boolean) rm_Sh_isSheet Tc nC I J N (fun ad => [.ref (ad a0), .int p1]) (I, J, N, fun _ => some (.int r)) :=
  g_meth (lv := fun ad => [(0, .ref (ad a0)), (1, .int p1)]) (by decide) (fun _ => Nat.le_of_ble_eq_true rfl) (fun _ => rfl) (fun X ad C => g_lv [1] rfl (w_Sh_isSheet_0 C ha0 h))
theorem d_Sh_size_0 : decode c_Sh_size 0 = .ok (.aload_n 0, 1) := by decide +kernel
theorem d_Sh_size_1 : decode c_Sh_size 1 = .ok (.iload_n 1, 1) := by decide +kernel
theorem d_Sh_size_2 : decode c_Sh_size 2 = .ok (.invokevirtual 20, 3) := by decide +kernel
theorem d_Sh_size_5 : decode c_Sh_size 5 = .ok (.ifCond .eq 12, 3) := by decide +kernel
theorem d_Sh_size_8 : decode c_Sh_size 8 = .ok (.aload_n 0, 1) := by decide +kernel
theorem d_Sh_size_9 : decode c_Sh_size 9 = .ok (.getfield 16, 3) := by decide +kernel
theorem d_Sh_size_12 : decode c_Sh_size 12 = .ok (.iload_n 1, 1) := by decide +kernel
theorem d_Sh_size_13 : decode c_Sh_size 13 = .ok (.iaload, 1) := by decide +kernel
theorem d_Sh_size_14 : decode c_Sh_size 14 = .ok (.goto 4, 3) := by decide +kernel
theorem d_Sh_size_17 : decode c_Sh_size 17 = .ok (.iconst (-1), 1) := by decide +kernel
theorem d_Sh_size_18 : decode c_Sh_size 18 = .ok (.ireturn, 1) := by decide +kernel
set_option maxRecDepth 20000 in
theorem w_Sh_size_0 {X : HX} {ad : Nat → Nat} {I : HI} {J : HJ} {N : HN} {r : Int32} {a0 : Nat} {p1 : Int32} (C : Cx X c_Sh_size RX8 2 (some .int) rm_Sh_size) (ha0 : gk Tc nC a0 (0, 8))
    (h : Sh_size_0 I N a0 p1 = some r) : G Tc X ad nC 0 0 I J N (gE X Tc ad nC (I, J, N, fun _ => some (.int r))) 0 2 [(0, .ref (ad a0)), (1, .int p1)] [] := by
  refine g_aload_n (pc := 0) C d_Sh_size_0 rfl 0 rfl ?_
  refine g_iload_n (pc := 1) C d_Sh_size_1 rfl 1 rfl ?_
  obtain ⟨r1, hc2, h⟩ := o_bn1 h
  refine g_V (pc := 2) (rest := []) C (k_Sh_isSheet (xl X) ha0 hc2) sm_Sh_isSheet ml_Sh_20 im_Sh_isSheet se_Sh_isSheet gcX8 rfl ha0 ⟨rfl, rfl, Nat.le_of_ble_eq_true rfl, Nat.le_of_ble_eq_true rfl⟩ ⟨Nat.zero_le _, Nat.zero_le _⟩ rfl rfl (Nat.le_of_ble_eq_true rfl) d_Sh_size_2 [.int r1] rfl ?_
  refine g_if_eq (pc := 5) C 17 d_Sh_size_5 rfl (fun e3 => ?_) (fun e3 => ?_)
  · have h := o_pos e3 h
    refine g_iconst (pc := 17) C (-1 : Int32) d_Sh_size_17 (by decide) ?_
    obtain rfl := o_ret h
    exact g_iret (pc := 18) C d_Sh_size_18
  · have h := o_neg e3 h
    refine g_aload_n (pc := 8) C d_Sh_size_8 rfl 0 rfl ?_
    obtain ⟨b4, hnb4, hb4, h⟩ := o_ra h
    refine g_get (pc := 9) (k := 1) (v := va_rf ((N a0 1).map ad)) C gcX8 inX8 (by decide) fl_Sh_16 ha0 rfl d_Sh_size_9 ?_
    refine g_top (g_rf hnb4) ?_
    refine g_iload_n (pc := 12) C d_Sh_size_12 rfl 1 rfl ?_
    obtain ⟨hi5, h⟩ := o_gd h
    refine g_iald (pc := 13) C hb4 hi5 d_Sh_size_13 ?_
    refine g_goto (pc := 14) C 18 d_Sh_size_14 rfl ?_
    obtain rfl := o_ret h
    exact g_iret (pc := 18) C d_Sh_size_18
set_option maxRecDepth 20000 in
theorem k_Sh_size (l : Launch) {I : HI} {J : HJ} {N : HN} {a0 : Nat} {p1 : Int32} {r : Int32} (ha0 : gk Tc nC a0 (0, 8)) (h : Sh_size I N a0 p1 = some r) : gM l y_Sh_size c_Sh_size 2 (some .int) rm_Sh_size Tc nC I J N (fun ad => [.ref (ad a0), .int p1]) (I, J, N, fun _ => some (.int r)) :=
  g_meth (lv := fun ad => [(0, .ref (ad a0)), (1, .int p1)]) (by decide) (fun _ => Nat.le_of_ble_eq_true rfl) (fun _ => rfl) (fun X ad C => g_lv [0, 1] rfl (w_Sh_size_0 C ha0 h))
theorem d_Sh_isLost_0 : decode c_Sh_isLost 0 = .ok (.aload_n 0, 1) := by decide +kernel
theorem d_Sh_isLost_1 : decode c_Sh_isLost 1 = .ok (.iload_n 1, 1) := by decide +kernel
theorem d_Sh_isLost_2 : decode c_Sh_isLost 2 = .ok (.invokevirtual 24, 3) := by decide +kernel
theorem d_Sh_isLost_5 : decode c_Sh_isLost 5 = .ok (.iconst (-1), 1) := by decide +kernel
theorem d_Sh_isLost_6 : decode c_Sh_isLost 6 = .ok (.if_icmp .ne 7, 3) := by decide +kernel
theorem d_Sh_isLost_9 : decode c_Sh_isLost 9 = .ok (.iconst 1, 1) := by decide +kernel
theorem d_Sh_isLost_10 : decode c_Sh_isLost 10 = .ok (.goto 4, 3) := by decide +kernel
theorem d_Sh_isLost_13 : decode c_Sh_isLost 13 = .ok (.iconst 0, 1) := by decide +kernel
theorem d_Sh_isLost_14 : decode c_Sh_isLost 14 = .ok (.ireturn, 1) := by decide +kernel
set_option maxRecDepth 20000 in
theorem w_Sh_isLost_0 {X : HX} {ad : Nat → Nat} {I : HI} {J : HJ} {N : HN} {r : Int32} {a0 : Nat} {p1 : Int32} (C : Cx X c_Sh_isLost RX8 2 (some .boolean) rm_Sh_isLost) (ha0 : gk Tc nC a0 (0, 8))
    (h : Sh_isLost_0 I N a0 p1 = some r) : G Tc X ad nC 0 0 I J N (gE X Tc ad nC (I, J, N, fun _ => some (.int r))) 0 2 [(0, .ref (ad a0)), (1, .int p1)] [] := by
  refine g_aload_n (pc := 0) C d_Sh_isLost_0 rfl 0 rfl ?_
  refine g_iload_n (pc := 1) C d_Sh_isLost_1 rfl 1 rfl ?_
  obtain ⟨r1, hc2, h⟩ := o_bn1 h
  refine g_V (pc := 2) (rest := []) C (k_Sh_size (xl X) ha0 hc2) sm_Sh_size ml_Sh_24 im_Sh_size se_Sh_size gcX8 rfl ha0 ⟨rfl, rfl, Nat.le_of_ble_eq_true rfl, Nat.le_of_ble_eq_true rfl⟩ ⟨Nat.zero_le _, Nat.zero_le _⟩ rfl rfl (Nat.le_of_ble_eq_true rfl) d_Sh_isLost_2 [.int r1] rfl ?_
  refine g_iconst (pc := 5) C (-1 : Int32) d_Sh_isLost_5 (by decide) ?_
  refine g_icmp_ne (pc := 6) C 13 d_Sh_isLost_6 rfl (fun e3 => ?_) (fun e3 => ?_)
  · have h := o_neg e3 h
    refine g_iconst (pc := 13) C (0 : Int32) d_Sh_isLost_13 (by decide) ?_
    obtain rfl := o_ret h
    exact g_zret (pc := 14) C zn_0 d_Sh_isLost_14
  · have h := o_pos e3 h
    refine g_iconst (pc := 9) C (1 : Int32) d_Sh_isLost_9 (by decide) ?_
    refine g_goto (pc := 10) C 14 d_Sh_isLost_10 rfl ?_
    obtain rfl := o_ret h
    exact g_zret (pc := 14) C zn_1 d_Sh_isLost_14
set_option maxRecDepth 20000 in
theorem k_Sh_isLost (l : Launch) {I : HI} {J : HJ} {N : HN} {a0 : Nat} {p1 : Int32} {r : Int32} (ha0 : gk Tc nC a0 (0, 8)) (h : Sh_isLost I N a0 p1 = some r) : gM l y_Sh_isLost c_Sh_isLost 2 (some .boolean) rm_Sh_isLost Tc nC I J N (fun ad => [.ref (ad a0), .int p1]) (I, J, N, fun _ => some (.int r)) :=
  g_meth (lv := fun ad => [(0, .ref (ad a0)), (1, .int p1)]) (by decide) (fun _ => Nat.le_of_ble_eq_true rfl) (fun _ => rfl) (fun X ad C => g_lv [0, 1] rfl (w_Sh_isLost_0 C ha0 h))
theorem d_Sh_notLost_0 : decode c_Sh_notLost 0 = .ok (.iconst 0, 1) := by decide +kernel
theorem d_Sh_notLost_1 : decode c_Sh_notLost 1 = .ok (.istore_n 1, 1) := by decide +kernel
theorem d_Sh_notLost_2 : decode c_Sh_notLost 2 = .ok (.iconst 0, 1) := by decide +kernel
theorem d_Sh_notLost_3 : decode c_Sh_notLost 3 = .ok (.istore_n 2, 1) := by decide +kernel
theorem d_Sh_notLost_4 : decode c_Sh_notLost 4 = .ok (.iload_n 2, 1) := by decide +kernel
theorem d_Sh_notLost_5 : decode c_Sh_notLost 5 = .ok (.iconst 3, 1) := by decide +kernel
theorem d_Sh_notLost_6 : decode c_Sh_notLost 6 = .ok (.if_icmp .ge 25, 3) := by decide +kernel
theorem d_Sh_notLost_9 : decode c_Sh_notLost 9 = .ok (.iload_n 1, 1) := by decide +kernel
theorem d_Sh_notLost_10 : decode c_Sh_notLost 10 = .ok (.aload_n 0, 1) := by decide +kernel
theorem d_Sh_notLost_11 : decode c_Sh_notLost 11 = .ok (.iload_n 2, 1) := by decide +kernel
theorem d_Sh_notLost_12 : decode c_Sh_notLost 12 = .ok (.invokevirtual 28, 3) := by decide +kernel
theorem d_Sh_notLost_15 : decode c_Sh_notLost 15 = .ok (.ifCond .eq 7, 3) := by decide +kernel
theorem d_Sh_notLost_18 : decode c_Sh_notLost 18 = .ok (.iconst 0, 1) := by decide +kernel
theorem d_Sh_notLost_19 : decode c_Sh_notLost 19 = .ok (.goto 4, 3) := by decide +kernel
theorem d_Sh_notLost_22 : decode c_Sh_notLost 22 = .ok (.iconst 1, 1) := by decide +kernel
theorem d_Sh_notLost_23 : decode c_Sh_notLost 23 = .ok (.iadd, 1) := by decide +kernel
theorem d_Sh_notLost_24 : decode c_Sh_notLost 24 = .ok (.istore_n 1, 1) := by decide +kernel
theorem d_Sh_notLost_25 : decode c_Sh_notLost 25 = .ok (.iinc 2 1, 3) := by decide +kernel
theorem d_Sh_notLost_28 : decode c_Sh_notLost 28 = .ok (.goto (-24), 3) := by decide +kernel
theorem d_Sh_notLost_31 : decode c_Sh_notLost 31 = .ok (.iload_n 1, 1) := by decide +kernel
theorem d_Sh_notLost_32 : decode c_Sh_notLost 32 = .ok (.ireturn, 1) := by decide +kernel
set_option maxRecDepth 20000 in
theorem w_Sh_notLost_23 {X : HX} {ad : Nat → Nat} {I : HI} {J : HJ} {N : HN} {r : Int32} {k4 : Int32 → Int32 → Option (Int32)} {a0 : Nat} {x2 : Int32} {s0 : Int32} {s1 : Int32} (C : Cx X c_Sh_notLost RX8 3 (some .int) rm_Sh_notLost) (ha0 : gk Tc nC a0 (0, 8))
    (hk4 : ∀ (x1 : Int32) (x2 : Int32), k4 x1 x2 = some r → G Tc X ad nC 0 0 I J N (gE X Tc ad nC (I, J, N, fun _ => some (.int r))) 4 3 [(0, .ref (ad a0)), (1, .int x1), (2, .int x2)] [])
    (h : Sh_notLost_23 I N a0 k4 x2 s0 s1 = some r) : G Tc X ad nC 0 0 I J N (gE X Tc ad nC (I, J, N, fun _ => some (.int r))) 23 3 [(0, .ref (ad a0)), (2, .int x2)] [.int s1, .int s0] := by
  refine g_iadd (pc := 23) C d_Sh_notLost_23 ?_
  obtain ⟨v1, ev1, h⟩ := o_bd h
  refine g_topi ev1 ?_
  refine g_istore_n (pc := 24) (lv' := [(1, .int v1), (0, .ref (ad a0)), (2, .int x2)]) C d_Sh_notLost_24 rfl (by decide) rfl ?_
  refine g_iinc (pc := 25) (q := 2) (lv' := [(2, .int (x2 + 1)), (1, .int v1), (0, .ref (ad a0))]) C d_Sh_notLost_25 rfl rfl (by decide) rfl ?_
  refine g_goto (pc := 28) C 4 d_Sh_notLost_28 rfl ?_
  refine g_lv [2, 1, 0] rfl ?_
  exact hk4 _ _ h
set_option maxRecDepth 20000 in
theorem w_Sh_notLost_4b {X : HX} {ad : Nat → Nat} {I : HI} {J : HJ} {N : HN} {r : Int32} {k4 : Int32 → Int32 → Option (Int32)} {a0 : Nat} {x1 : Int32} {x2 : Int32} (C : Cx X c_Sh_notLost RX8 3 (some .int) rm_Sh_notLost) (ha0 : gk Tc nC a0 (0, 8))
    (hk4 : ∀ (x1 : Int32) (x2 : Int32), k4 x1 x2 = some r → G Tc X ad nC 0 0 I J N (gE X Tc ad nC (I, J, N, fun _ => some (.int r))) 4 3 [(0, .ref (ad a0)), (1, .int x1), (2, .int x2)] [])
    (h : Sh_notLost_4b I N a0 k4 x1 x2 = some r) : G Tc X ad nC 0 0 I J N (gE X Tc ad nC (I, J, N, fun _ => some (.int r))) 4 3 [(0, .ref (ad a0)), (1, .int x1), (2, .int x2)] [] := by
  refine g_iload_n (pc := 4) C d_Sh_notLost_4 rfl 2 rfl ?_
  refine g_iconst (pc := 5) C (3 : Int32) d_Sh_notLost_5 (by decide) ?_
  refine g_icmp_ge (pc := 6) C 31 d_Sh_notLost_6 rfl (fun e1 => ?_) (fun e1 => ?_)
  · have h := o_pos e1 h
    refine g_iload_n (pc := 31) C d_Sh_notLost_31 rfl 1 rfl ?_
    obtain rfl := o_ret h
    exact g_iret (pc := 32) C d_Sh_notLost_32
  · have h := o_neg e1 h
    refine g_iload_n (pc := 9) C d_Sh_notLost_9 rfl 1 rfl ?_
    refine g_aload_n (pc := 10) C d_Sh_notLost_10 rfl 0 rfl ?_
    refine g_iload_n (pc := 11) C d_Sh_notLost_11 rfl 2 rfl ?_
    obtain ⟨r2, hc3, h⟩ := o_bn1 h
    refine g_V (pc := 12) (rest := [.int x1]) C (k_Sh_isLost (xl X) ha0 hc3) sm_Sh_isLost ml_Sh_28 im_Sh_isLost se_Sh_isLost gcX8 rfl ha0 ⟨rfl, rfl, Nat.le_of_ble_eq_true rfl, Nat.le_of_ble_eq_true rfl⟩ ⟨Nat.zero_le _, Nat.zero_le _⟩ rfl rfl (Nat.le_of_ble_eq_true rfl) d_Sh_notLost_12 [.int r2, .int x1] rfl ?_
    refine g_if_eq (pc := 15) C 22 d_Sh_notLost_15 rfl (fun e4 => ?_) (fun e4 => ?_)
    · have h := o_pos e4 h
      refine g_iconst (pc := 22) C (1 : Int32) d_Sh_notLost_22 (by decide) ?_
      refine g_lv [0, 2] rfl ?_
      exact w_Sh_notLost_23 C ha0 hk4 h
    · have h := o_neg e4 h
      refine g_iconst (pc := 18) C (0 : Int32) d_Sh_notLost_18 (by decide) ?_
      refine g_goto (pc := 19) C 23 d_Sh_notLost_19 rfl ?_
      refine g_lv [0, 2] rfl ?_
      exact w_Sh_notLost_23 C ha0 hk4 h
set_option maxRecDepth 20000 in
theorem w_Sh_notLost_4 {X : HX} {ad : Nat → Nat} {I : HI} {J : HJ} {N : HN} {r : Int32} {a0 : Nat} (C : Cx X c_Sh_notLost RX8 3 (some .int) rm_Sh_notLost) (ha0 : gk Tc nC a0 (0, 8)) : ∀ (n : Nat) (x1 : Int32) (x2 : Int32), Sh_notLost_4 I N a0 n x1 x2 = some r → G Tc X ad nC 0 0 I J N (gE X Tc ad nC (I, J, N, fun _ => some (.int r))) 4 3 [(0, .ref (ad a0)), (1, .int x1), (2, .int x2)] [] := by
  intro n
  induction n with
  | zero => intro x1 x2 h; cases h
  | succ n ih => intro x1 x2 h; exact w_Sh_notLost_4b C ha0 ih h
set_option maxRecDepth 20000 in
theorem w_Sh_notLost_0 {X : HX} {ad : Nat → Nat} {I : HI} {J : HJ} {N : HN} {r : Int32} {a0 : Nat} (C : Cx X c_Sh_notLost RX8 3 (some .int) rm_Sh_notLost) (ha0 : gk Tc nC a0 (0, 8))
    (h : Sh_notLost_0 I N a0 = some r) : G Tc X ad nC 0 0 I J N (gE X Tc ad nC (I, J, N, fun _ => some (.int r))) 0 3 [(0, .ref (ad a0))] [] := by
  refine g_iconst (pc := 0) C (0 : Int32) d_Sh_notLost_0 (by decide) ?_
  refine g_istore_n (pc := 1) (lv' := [(1, .int (0 : Int32)), (0, .ref (ad a0))]) C d_Sh_notLost_1 rfl (by decide) rfl ?_
  refine g_iconst (pc := 2) C (0 : Int32) d_Sh_notLost_2 (by decide) ?_
  refine g_istore_n (pc := 3) (lv' := [(2, .int (0 : Int32)), (1, .int (0 : Int32)), (0, .ref (ad a0))]) C d_Sh_notLost_3 rfl (by decide) rfl ?_
  refine g_lv [2, 1, 0] rfl ?_
  exact w_Sh_notLost_4 C ha0 _ _ _ h
set_option maxRecDepth 20000 in
theorem k_Sh_notLost (l : Launch) {I : HI} {J : HJ} {N : HN} {a0 : Nat} {r : Int32} (ha0 : gk Tc nC a0 (0, 8)) (h : Sh_notLost I N a0 = some r) : gM l y_Sh_notLost c_Sh_notLost 3 (some .int) rm_Sh_notLost Tc nC I J N (fun ad => [.ref (ad a0)]) (I, J, N, fun _ => some (.int r)) :=
  g_meth (lv := fun ad => [(0, .ref (ad a0))]) (by decide) (fun _ => Nat.le_of_ble_eq_true rfl) (fun _ => rfl) (fun X ad C => g_lv [0] rfl (w_Sh_notLost_0 C ha0 h))
theorem d_Sh_renew_0 : decode c_Sh_renew 0 = .ok (.aload_n 0, 1) := by decide +kernel
theorem d_Sh_renew_1 : decode c_Sh_renew 1 = .ok (.iload_n 1, 1) := by decide +kernel
theorem d_Sh_renew_2 : decode c_Sh_renew 2 = .ok (.invokevirtual 20, 3) := by decide +kernel
theorem d_Sh_renew_5 : decode c_Sh_renew 5 = .ok (.ifCond .eq 43, 3) := by decide +kernel
theorem d_Sh_renew_8 : decode c_Sh_renew 8 = .ok (.iload_n 2, 1) := by decide +kernel
theorem d_Sh_renew_9 : decode c_Sh_renew 9 = .ok (.ifCond .lt 39, 3) := by decide +kernel
theorem d_Sh_renew_12 : decode c_Sh_renew 12 = .ok (.iload_n 2, 1) := by decide +kernel
theorem d_Sh_renew_13 : decode c_Sh_renew 13 = .ok (.bipush 40, 2) := by decide +kernel
theorem d_Sh_renew_15 : decode c_Sh_renew 15 = .ok (.if_icmp .gt 33, 3) := by decide +kernel
theorem d_Sh_renew_18 : decode c_Sh_renew 18 = .ok (.aload_n 0, 1) := by decide +kernel
theorem d_Sh_renew_19 : decode c_Sh_renew 19 = .ok (.getfield 16, 3) := by decide +kernel
theorem d_Sh_renew_22 : decode c_Sh_renew 22 = .ok (.iload_n 1, 1) := by decide +kernel
theorem d_Sh_renew_23 : decode c_Sh_renew 23 = .ok (.iload_n 2, 1) := by decide +kernel
theorem d_Sh_renew_24 : decode c_Sh_renew 24 = .ok (.iastore, 1) := by decide +kernel
theorem d_Sh_renew_25 : decode c_Sh_renew 25 = .ok (.iconst 0, 1) := by decide +kernel
theorem d_Sh_renew_26 : decode c_Sh_renew 26 = .ok (.istore_n 3, 1) := by decide +kernel
theorem d_Sh_renew_27 : decode c_Sh_renew 27 = .ok (.iload_n 3, 1) := by decide +kernel
theorem d_Sh_renew_28 : decode c_Sh_renew 28 = .ok (.bipush 40, 2) := by decide +kernel
theorem d_Sh_renew_30 : decode c_Sh_renew 30 = .ok (.if_icmp .ge 18, 3) := by decide +kernel
theorem d_Sh_renew_33 : decode c_Sh_renew 33 = .ok (.aload_n 0, 1) := by decide +kernel
theorem d_Sh_renew_34 : decode c_Sh_renew 34 = .ok (.getfield 11, 3) := by decide +kernel
theorem d_Sh_renew_37 : decode c_Sh_renew 37 = .ok (.iload_n 1, 1) := by decide +kernel
theorem d_Sh_renew_38 : decode c_Sh_renew 38 = .ok (.aaload, 1) := by decide +kernel
theorem d_Sh_renew_39 : decode c_Sh_renew 39 = .ok (.iload_n 3, 1) := by decide +kernel
theorem d_Sh_renew_40 : decode c_Sh_renew 40 = .ok (.lconst 0, 1) := by decide +kernel
theorem d_Sh_renew_41 : decode c_Sh_renew 41 = .ok (.lastore, 1) := by decide +kernel
theorem d_Sh_renew_42 : decode c_Sh_renew 42 = .ok (.iinc 3 1, 3) := by decide +kernel
theorem d_Sh_renew_45 : decode c_Sh_renew 45 = .ok (.goto (-18), 3) := by decide +kernel
theorem d_Sh_renew_48 : decode c_Sh_renew 48 = .ok (.return_, 1) := by decide +kernel
set_option maxRecDepth 20000 in
theorem w_Sh_renew_27b {X : HX} {ad : Nat → Nat} {I : HI} {J : HJ} {N : HN} {r : HI × HJ} {k27 : HI → HJ → Int32 → Option (HI × HJ)} {a0 : Nat} {p1 : Int32} {p2 : Int32} {x3 : Int32} (C : Cx X c_Sh_renew RX8 4 none rm_Sh_renew) (ha0 : gk Tc nC a0 (0, 8))
    (hk27 : ∀ (I : HI) (J : HJ) (x3 : Int32), k27 I J x3 = some r → G Tc X ad nC 0 0 I J N (gE X Tc ad nC (r.1, r.2, N, fun _ => none)) 27 4 [(0, .ref (ad a0)), (1, .int p1), (3, .int x3)] [])
    (h : Sh_renew_27b N a0 p1 p2 k27 I J x3 = some r) : G Tc X ad nC 0 0 I J N (gE X Tc ad nC (r.1, r.2, N, fun _ => none)) 27 4 [(0, .ref (ad a0)), (1, .int p1), (3, .int x3)] [] := by
  refine g_iload_n (pc := 27) C d_Sh_renew_27 rfl 2 rfl ?_
  refine g_bipush (pc := 28) C (40 : Int32) d_Sh_renew_28 (by decide) ?_
  refine g_icmp_ge (pc := 30) C 48 d_Sh_renew_30 rfl (fun e1 => ?_) (fun e1 => ?_)
  · have h := o_pos e1 h
    obtain rfl := o_ret h
    exact g_vret (pc := 48) C d_Sh_renew_48
  · have h := o_neg e1 h
    refine g_aload_n (pc := 33) C d_Sh_renew_33 rfl 0 rfl ?_
    obtain ⟨b2, hnb2, hb2, h⟩ := o_ra h
    refine g_get (pc := 34) (k := 0) (v := va_rf ((N a0 0).map ad)) C gcX8 inX8 (by decide) fl_Sh_11 ha0 rfl d_Sh_renew_34 ?_
    refine g_top (g_rf hnb2) ?_
    refine g_iload_n (pc := 37) C d_Sh_renew_37 rfl 1 rfl ?_
    obtain ⟨hi3, h⟩ := o_gd h
    obtain ⟨b4, hnb4, hb4, h⟩ := o_ra h
    refine g_aald (pc := 38) 4 3 C hb2 (Or.inr ⟨rfl, rfl, rfl⟩) hi3 hnb4 d_Sh_renew_38 ?_
    refine g_iload_n (pc := 39) C d_Sh_renew_39 rfl 2 rfl ?_
    refine g_lconst (pc := 40) C (0 : Int64) d_Sh_renew_40 (by decide) ?_
    obtain ⟨hi5, h⟩ := o_gd h
    refine g_last (pc := 41) C hb4 hi5 d_Sh_renew_41 ?_
    obtain ⟨J6, eJ6, h⟩ := o_bd h
    rw [← eJ6]
    refine g_iinc (pc := 42) (q := 2) (lv' := [(3, .int (x3 + 1)), (0, .ref (ad a0)), (1, .int p1)]) C d_Sh_renew_42 rfl rfl (by decide) rfl ?_
    refine g_goto (pc := 45) C 27 d_Sh_renew_45 rfl ?_
    refine g_lv [1, 2, 0] rfl ?_
    exact hk27 _ _ _ h
set_option maxRecDepth 20000 in
theorem w_Sh_renew_27 {X : HX} {ad : Nat → Nat} {N : HN} {r : HI × HJ} {a0 : Nat} {p1 : Int32} {p2 : Int32} (C : Cx X c_Sh_renew RX8 4 none rm_Sh_renew) (ha0 : gk Tc nC a0 (0, 8)) : ∀ (n : Nat) (I : HI) (J : HJ) (x3 : Int32), Sh_renew_27 N a0 p1 p2 n I J x3 = some r → G Tc X ad nC 0 0 I J N (gE X Tc ad nC (r.1, r.2, N, fun _ => none)) 27 4 [(0, .ref (ad a0)), (1, .int p1), (3, .int x3)] [] := by
  intro n
  induction n with
  | zero => intro I J x3 h; cases h
  | succ n ih => intro I J x3 h; exact w_Sh_renew_27b C ha0 ih h
set_option maxRecDepth 20000 in
theorem w_Sh_renew_0 {X : HX} {ad : Nat → Nat} {I : HI} {J : HJ} {N : HN} {r : HI × HJ} {a0 : Nat} {p1 : Int32} {p2 : Int32} (C : Cx X c_Sh_renew RX8 4 none rm_Sh_renew) (ha0 : gk Tc nC a0 (0, 8))
    (h : Sh_renew_0 N a0 p1 p2 I J = some r) : G Tc X ad nC 0 0 I J N (gE X Tc ad nC (r.1, r.2, N, fun _ => none)) 0 4 [(0, .ref (ad a0)), (1, .int p1), (2, .int p2)] [] := by
  refine g_aload_n (pc := 0) C d_Sh_renew_0 rfl 0 rfl ?_
  refine g_iload_n (pc := 1) C d_Sh_renew_1 rfl 1 rfl ?_
  obtain ⟨r1, hc2, h⟩ := o_bn1 h
  refine g_V (pc := 2) (rest := []) C (k_Sh_isSheet (xl X) ha0 hc2) sm_Sh_isSheet ml_Sh_20 im_Sh_isSheet se_Sh_isSheet gcX8 rfl ha0 ⟨rfl, rfl, Nat.le_of_ble_eq_true rfl, Nat.le_of_ble_eq_true rfl⟩ ⟨Nat.zero_le _, Nat.zero_le _⟩ rfl rfl (Nat.le_of_ble_eq_true rfl) d_Sh_renew_2 [.int r1] rfl ?_
  refine g_if_eq (pc := 5) C 48 d_Sh_renew_5 rfl (fun e3 => ?_) (fun e3 => ?_)
  · have h := o_pos e3 h
    obtain rfl := o_ret h
    exact g_vret (pc := 48) C d_Sh_renew_48
  · have h := o_neg e3 h
    refine g_iload_n (pc := 8) C d_Sh_renew_8 rfl 2 rfl ?_
    refine g_if_lt (pc := 9) C 48 d_Sh_renew_9 rfl (fun e4 => ?_) (fun e4 => ?_)
    · have h := o_pos e4 h
      obtain rfl := o_ret h
      exact g_vret (pc := 48) C d_Sh_renew_48
    · have h := o_neg e4 h
      refine g_iload_n (pc := 12) C d_Sh_renew_12 rfl 2 rfl ?_
      refine g_bipush (pc := 13) C (40 : Int32) d_Sh_renew_13 (by decide) ?_
      refine g_icmp_gt (pc := 15) C 48 d_Sh_renew_15 rfl (fun e5 => ?_) (fun e5 => ?_)
      · have h := o_pos e5 h
        obtain rfl := o_ret h
        exact g_vret (pc := 48) C d_Sh_renew_48
      · have h := o_neg e5 h
        refine g_aload_n (pc := 18) C d_Sh_renew_18 rfl 0 rfl ?_
        obtain ⟨b6, hnb6, hb6, h⟩ := o_ra h
        refine g_get (pc := 19) (k := 1) (v := va_rf ((N a0 1).map ad)) C gcX8 inX8 (by decide) fl_Sh_16 ha0 rfl d_Sh_renew_19 ?_
        refine g_top (g_rf hnb6) ?_
        refine g_iload_n (pc := 22) C d_Sh_renew_22 rfl 1 rfl ?_
        refine g_iload_n (pc := 23) C d_Sh_renew_23 rfl 2 rfl ?_
        obtain ⟨hi7, h⟩ := o_gd h
        refine g_iast (pc := 24) C hb6 hi7 d_Sh_renew_24 ?_
        obtain ⟨I8, eI8, h⟩ := o_bd h
        rw [← eI8]
        refine g_iconst (pc := 25) C (0 : Int32) d_Sh_renew_25 (by decide) ?_
        refine g_istore_n (pc := 26) (lv' := [(3, .int (0 : Int32)), (0, .ref (ad a0)), (1, .int p1), (2, .int p2)]) C d_Sh_renew_26 rfl (by decide) rfl ?_
        refine g_lv [1, 2, 0] rfl ?_
        exact w_Sh_renew_27 C ha0 _ _ _ _ h
set_option maxRecDepth 20000 in
theorem k_Sh_renew (l : Launch) {I : HI} {J : HJ} {N : HN} {a0 : Nat} {p1 : Int32} {p2 : Int32} {r : HI × HJ} (ha0 : gk Tc nC a0 (0, 8)) (h : Sh_renew N a0 p1 p2 I J = some r) : gM l y_Sh_renew c_Sh_renew 4 none rm_Sh_renew Tc nC I J N (fun ad => [.ref (ad a0), .int p1, .int p2]) (r.1, r.2, N, fun _ => none) :=
  g_meth (lv := fun ad => [(0, .ref (ad a0)), (1, .int p1), (2, .int p2)]) (by decide) (fun _ => Nat.le_of_ble_eq_true rfl) (fun _ => rfl) (fun X ad C => g_lv [0, 1, 2] rfl (w_Sh_renew_0 C ha0 h))
theorem d_Sh_forget_0 : decode c_Sh_forget 0 = .ok (.aload_n 0, 1) := by decide +kernel
theorem d_Sh_forget_1 : decode c_Sh_forget 1 = .ok (.iload_n 1, 1) := by decide +kernel
theorem d_Sh_forget_2 : decode c_Sh_forget 2 = .ok (.invokevirtual 20, 3) := by decide +kernel
theorem d_Sh_forget_5 : decode c_Sh_forget 5 = .ok (.ifCond .eq 10, 3) := by decide +kernel
theorem d_Sh_forget_8 : decode c_Sh_forget 8 = .ok (.aload_n 0, 1) := by decide +kernel
theorem d_Sh_forget_9 : decode c_Sh_forget 9 = .ok (.getfield 16, 3) := by decide +kernel
theorem d_Sh_forget_12 : decode c_Sh_forget 12 = .ok (.iload_n 1, 1) := by decide +kernel
theorem d_Sh_forget_13 : decode c_Sh_forget 13 = .ok (.iconst (-1), 1) := by decide +kernel
theorem d_Sh_forget_14 : decode c_Sh_forget 14 = .ok (.iastore, 1) := by decide +kernel
theorem d_Sh_forget_15 : decode c_Sh_forget 15 = .ok (.return_, 1) := by decide +kernel
set_option maxRecDepth 20000 in
theorem w_Sh_forget_0 {X : HX} {ad : Nat → Nat} {I : HI} {J : HJ} {N : HN} {r : HI} {a0 : Nat} {p1 : Int32} (C : Cx X c_Sh_forget RX8 2 none rm_Sh_forget) (ha0 : gk Tc nC a0 (0, 8))
    (h : Sh_forget_0 N a0 p1 I = some r) : G Tc X ad nC 0 0 I J N (gE X Tc ad nC (r, J, N, fun _ => none)) 0 2 [(0, .ref (ad a0)), (1, .int p1)] [] := by
  refine g_aload_n (pc := 0) C d_Sh_forget_0 rfl 0 rfl ?_
  refine g_iload_n (pc := 1) C d_Sh_forget_1 rfl 1 rfl ?_
  obtain ⟨r1, hc2, h⟩ := o_bn1 h
  refine g_V (pc := 2) (rest := []) C (k_Sh_isSheet (xl X) ha0 hc2) sm_Sh_isSheet ml_Sh_20 im_Sh_isSheet se_Sh_isSheet gcX8 rfl ha0 ⟨rfl, rfl, Nat.le_of_ble_eq_true rfl, Nat.le_of_ble_eq_true rfl⟩ ⟨Nat.zero_le _, Nat.zero_le _⟩ rfl rfl (Nat.le_of_ble_eq_true rfl) d_Sh_forget_2 [.int r1] rfl ?_
  refine g_if_eq (pc := 5) C 15 d_Sh_forget_5 rfl (fun e3 => ?_) (fun e3 => ?_)
  · have h := o_pos e3 h
    obtain rfl := o_ret h
    exact g_vret (pc := 15) C d_Sh_forget_15
  · have h := o_neg e3 h
    refine g_aload_n (pc := 8) C d_Sh_forget_8 rfl 0 rfl ?_
    obtain ⟨b4, hnb4, hb4, h⟩ := o_ra h
    refine g_get (pc := 9) (k := 1) (v := va_rf ((N a0 1).map ad)) C gcX8 inX8 (by decide) fl_Sh_16 ha0 rfl d_Sh_forget_9 ?_
    refine g_top (g_rf hnb4) ?_
    refine g_iload_n (pc := 12) C d_Sh_forget_12 rfl 1 rfl ?_
    refine g_iconst (pc := 13) C (-1 : Int32) d_Sh_forget_13 (by decide) ?_
    obtain ⟨hi5, h⟩ := o_gd h
    refine g_iast (pc := 14) C hb4 hi5 d_Sh_forget_14 ?_
    obtain ⟨I6, eI6, h⟩ := o_bd h
    rw [← eI6]
    obtain rfl := o_ret h
    exact g_vret (pc := 15) C d_Sh_forget_15
set_option maxRecDepth 20000 in
theorem k_Sh_forget (l : Launch) {I : HI} {J : HJ} {N : HN} {a0 : Nat} {p1 : Int32} {r : HI} (ha0 : gk Tc nC a0 (0, 8)) (h : Sh_forget N a0 p1 I = some r) : gM l y_Sh_forget c_Sh_forget 2 none rm_Sh_forget Tc nC I J N (fun ad => [.ref (ad a0), .int p1]) (r, J, N, fun _ => none) :=
  g_meth (lv := fun ad => [(0, .ref (ad a0)), (1, .int p1)]) (by decide) (fun _ => Nat.le_of_ble_eq_true rfl) (fun _ => rfl) (fun X ad C => g_lv [0, 1] rfl (w_Sh_forget_0 C ha0 h))
theorem d_Sh_hasRun_0 : decode c_Sh_hasRun 0 = .ok (.iload_n 2, 1) := by decide +kernel
theorem d_Sh_hasRun_1 : decode c_Sh_hasRun 1 = .ok (.ifCond .lt 28, 3) := by decide +kernel
theorem d_Sh_hasRun_4 : decode c_Sh_hasRun 4 = .ok (.iload_n 3, 1) := by decide +kernel
theorem d_Sh_hasRun_5 : decode c_Sh_hasRun 5 = .ok (.ifCond .lt 24, 3) := by decide +kernel
theorem d_Sh_hasRun_8 : decode c_Sh_hasRun 8 = .ok (.iload_n 3, 1) := by decide +kernel
theorem d_Sh_hasRun_9 : decode c_Sh_hasRun 9 = .ok (.bipush 40, 2) := by decide +kernel
theorem d_Sh_hasRun_11 : decode c_Sh_hasRun 11 = .ok (.if_icmp .gt 18, 3) := by decide +kernel
theorem d_Sh_hasRun_14 : decode c_Sh_hasRun 14 = .ok (.iload_n 2, 1) := by decide +kernel
theorem d_Sh_hasRun_15 : decode c_Sh_hasRun 15 = .ok (.aload_n 0, 1) := by decide +kernel
theorem d_Sh_hasRun_16 : decode c_Sh_hasRun 16 = .ok (.iload_n 1, 1) := by decide +kernel
theorem d_Sh_hasRun_17 : decode c_Sh_hasRun 17 = .ok (.invokevirtual 24, 3) := by decide +kernel
theorem d_Sh_hasRun_20 : decode c_Sh_hasRun 20 = .ok (.iload_n 3, 1) := by decide +kernel
theorem d_Sh_hasRun_21 : decode c_Sh_hasRun 21 = .ok (.isub, 1) := by decide +kernel
theorem d_Sh_hasRun_22 : decode c_Sh_hasRun 22 = .ok (.if_icmp .gt 7, 3) := by decide +kernel
theorem d_Sh_hasRun_25 : decode c_Sh_hasRun 25 = .ok (.iconst 1, 1) := by decide +kernel
theorem d_Sh_hasRun_26 : decode c_Sh_hasRun 26 = .ok (.goto 4, 3) := by decide +kernel
theorem d_Sh_hasRun_29 : decode c_Sh_hasRun 29 = .ok (.iconst 0, 1) := by decide +kernel
theorem d_Sh_hasRun_30 : decode c_Sh_hasRun 30 = .ok (.ireturn, 1) := by decide +kernel
set_option maxRecDepth 20000 in
theorem w_Sh_hasRun_0 {X : HX} {ad : Nat → Nat} {I : HI} {J : HJ} {N : HN} {r : Int32} {a0 : Nat} {p1 : Int32} {p2 : Int32} {p3 : Int32} (C : Cx X c_Sh_hasRun RX8 4 (some .boolean) rm_Sh_hasRun) (ha0 : gk Tc nC a0 (0, 8))
    (h : Sh_hasRun_0 I N a0 p1 p2 p3 = some r) : G Tc X ad nC 0 0 I J N (gE X Tc ad nC (I, J, N, fun _ => some (.int r))) 0 4 [(0, .ref (ad a0)), (1, .int p1), (2, .int p2), (3, .int p3)] [] := by
  refine g_iload_n (pc := 0) C d_Sh_hasRun_0 rfl 2 rfl ?_
  refine g_if_lt (pc := 1) C 29 d_Sh_hasRun_1 rfl (fun e1 => ?_) (fun e1 => ?_)
  · have h := o_pos e1 h
    refine g_iconst (pc := 29) C (0 : Int32) d_Sh_hasRun_29 (by decide) ?_
    obtain rfl := o_ret h
    exact g_zret (pc := 30) C zn_0 d_Sh_hasRun_30
  · have h := o_neg e1 h
    refine g_iload_n (pc := 4) C d_Sh_hasRun_4 rfl 3 rfl ?_
    refine g_if_lt (pc := 5) C 29 d_Sh_hasRun_5 rfl (fun e2 => ?_) (fun e2 => ?_)
    · have h := o_pos e2 h
      refine g_iconst (pc := 29) C (0 : Int32) d_Sh_hasRun_29 (by decide) ?_
      obtain rfl := o_ret h
      exact g_zret (pc := 30) C zn_0 d_Sh_hasRun_30
    · have h := o_neg e2 h
      refine g_iload_n (pc := 8) C d_Sh_hasRun_8 rfl 3 rfl ?_
      refine g_bipush (pc := 9) C (40 : Int32) d_Sh_hasRun_9 (by decide) ?_
      refine g_icmp_gt (pc := 11) C 29 d_Sh_hasRun_11 rfl (fun e3 => ?_) (fun e3 => ?_)
      · have h := o_pos e3 h
        refine g_iconst (pc := 29) C (0 : Int32) d_Sh_hasRun_29 (by decide) ?_
        obtain rfl := o_ret h
        exact g_zret (pc := 30) C zn_0 d_Sh_hasRun_30
      · have h := o_neg e3 h
        refine g_iload_n (pc := 14) C d_Sh_hasRun_14 rfl 2 rfl ?_
        refine g_aload_n (pc := 15) C d_Sh_hasRun_15 rfl 0 rfl ?_
        refine g_iload_n (pc := 16) C d_Sh_hasRun_16 rfl 1 rfl ?_
        obtain ⟨r4, hc5, h⟩ := o_bn1 h
        refine g_V (pc := 17) (rest := [.int p2]) C (k_Sh_size (xl X) ha0 hc5) sm_Sh_size ml_Sh_24 im_Sh_size se_Sh_size gcX8 rfl ha0 ⟨rfl, rfl, Nat.le_of_ble_eq_true rfl, Nat.le_of_ble_eq_true rfl⟩ ⟨Nat.zero_le _, Nat.zero_le _⟩ rfl rfl (Nat.le_of_ble_eq_true rfl) d_Sh_hasRun_17 [.int r4, .int p2] rfl ?_
        refine g_iload_n (pc := 20) C d_Sh_hasRun_20 rfl 3 rfl ?_
        refine g_isub (pc := 21) C d_Sh_hasRun_21 ?_
        refine g_icmp_gt (pc := 22) C 29 d_Sh_hasRun_22 rfl (fun e6 => ?_) (fun e6 => ?_)
        · have h := o_pos e6 h
          refine g_iconst (pc := 29) C (0 : Int32) d_Sh_hasRun_29 (by decide) ?_
          obtain rfl := o_ret h
          exact g_zret (pc := 30) C zn_0 d_Sh_hasRun_30
        · have h := o_neg e6 h
          refine g_iconst (pc := 25) C (1 : Int32) d_Sh_hasRun_25 (by decide) ?_
          refine g_goto (pc := 26) C 30 d_Sh_hasRun_26 rfl ?_
          obtain rfl := o_ret h
          exact g_zret (pc := 30) C zn_1 d_Sh_hasRun_30
set_option maxRecDepth 20000 in
theorem k_Sh_hasRun (l : Launch) {I : HI} {J : HJ} {N : HN} {a0 : Nat} {p1 : Int32} {p2 : Int32} {p3 : Int32} {r : Int32} (ha0 : gk Tc nC a0 (0, 8)) (h : Sh_hasRun I N a0 p1 p2 p3 = some r) : gM l y_Sh_hasRun c_Sh_hasRun 4 (some .boolean) rm_Sh_hasRun Tc nC I J N (fun ad => [.ref (ad a0), .int p1, .int p2, .int p3]) (I, J, N, fun _ => some (.int r)) :=
  g_meth (lv := fun ad => [(0, .ref (ad a0)), (1, .int p1), (2, .int p2), (3, .int p3)]) (by decide) (fun _ => Nat.le_of_ble_eq_true rfl) (fun _ => rfl) (fun X ad C => g_lv [0, 1, 2, 3] rfl (w_Sh_hasRun_0 C ha0 h))
theorem d_Sh_item_0 : decode c_Sh_item 0 = .ok (.aload_n 0, 1) := by decide +kernel
theorem d_Sh_item_1 : decode c_Sh_item 1 = .ok (.iload_n 1, 1) := by decide +kernel
theorem d_Sh_item_2 : decode c_Sh_item 2 = .ok (.invokevirtual 20, 3) := by decide +kernel
theorem d_Sh_item_5 : decode c_Sh_item 5 = .ok (.ifCond .eq 30, 3) := by decide +kernel
theorem d_Sh_item_8 : decode c_Sh_item 8 = .ok (.aload_n 0, 1) := by decide +kernel
theorem d_Sh_item_9 : decode c_Sh_item 9 = .ok (.iload_n 1, 1) := by decide +kernel
theorem d_Sh_item_10 : decode c_Sh_item 10 = .ok (.iload_n 2, 1) := by decide +kernel
theorem d_Sh_item_11 : decode c_Sh_item 11 = .ok (.iconst 1, 1) := by decide +kernel
theorem d_Sh_item_12 : decode c_Sh_item 12 = .ok (.invokevirtual 31, 3) := by decide +kernel
theorem d_Sh_item_15 : decode c_Sh_item 15 = .ok (.ifCond .eq 20, 3) := by decide +kernel
theorem d_Sh_item_18 : decode c_Sh_item 18 = .ok (.iload_n 2, 1) := by decide +kernel
theorem d_Sh_item_19 : decode c_Sh_item 19 = .ok (.bipush 40, 2) := by decide +kernel
theorem d_Sh_item_21 : decode c_Sh_item 21 = .ok (.if_icmp .ge 14, 3) := by decide +kernel
theorem d_Sh_item_24 : decode c_Sh_item 24 = .ok (.aload_n 0, 1) := by decide +kernel
theorem d_Sh_item_25 : decode c_Sh_item 25 = .ok (.getfield 11, 3) := by decide +kernel
theorem d_Sh_item_28 : decode c_Sh_item 28 = .ok (.iload_n 1, 1) := by decide +kernel
theorem d_Sh_item_29 : decode c_Sh_item 29 = .ok (.aaload, 1) := by decide +kernel
theorem d_Sh_item_30 : decode c_Sh_item 30 = .ok (.iload_n 2, 1) := by decide +kernel
theorem d_Sh_item_31 : decode c_Sh_item 31 = .ok (.laload, 1) := by decide +kernel
theorem d_Sh_item_32 : decode c_Sh_item 32 = .ok (.goto 4, 3) := by decide +kernel
theorem d_Sh_item_35 : decode c_Sh_item 35 = .ok (.lconst 0, 1) := by decide +kernel
theorem d_Sh_item_36 : decode c_Sh_item 36 = .ok (.lreturn, 1) := by decide +kernel
set_option maxRecDepth 20000 in
theorem w_Sh_item_0 {X : HX} {ad : Nat → Nat} {I : HI} {J : HJ} {N : HN} {r : Int64} {a0 : Nat} {p1 : Int32} {p2 : Int32} (C : Cx X c_Sh_item RX8 3 (some .long) rm_Sh_item) (ha0 : gk Tc nC a0 (0, 8))
    (h : Sh_item_0 I J N a0 p1 p2 = some r) : G Tc X ad nC 0 0 I J N (gE X Tc ad nC (I, J, N, fun _ => some (.long r))) 0 3 [(0, .ref (ad a0)), (1, .int p1), (2, .int p2)] [] := by
  refine g_aload_n (pc := 0) C d_Sh_item_0 rfl 0 rfl ?_
  refine g_iload_n (pc := 1) C d_Sh_item_1 rfl 1 rfl ?_
  obtain ⟨r1, hc2, h⟩ := o_bn1 h
  refine g_V (pc := 2) (rest := []) C (k_Sh_isSheet (xl X) ha0 hc2) sm_Sh_isSheet ml_Sh_20 im_Sh_isSheet se_Sh_isSheet gcX8 rfl ha0 ⟨rfl, rfl, Nat.le_of_ble_eq_true rfl, Nat.le_of_ble_eq_true rfl⟩ ⟨Nat.zero_le _, Nat.zero_le _⟩ rfl rfl (Nat.le_of_ble_eq_true rfl) d_Sh_item_2 [.int r1] rfl ?_
  refine g_if_eq (pc := 5) C 35 d_Sh_item_5 rfl (fun e3 => ?_) (fun e3 => ?_)
  · have h := o_pos e3 h
    refine g_lconst (pc := 35) C (0 : Int64) d_Sh_item_35 (by decide) ?_
    obtain rfl := o_ret h
    exact g_lret (pc := 36) C d_Sh_item_36
  · have h := o_neg e3 h
    refine g_aload_n (pc := 8) C d_Sh_item_8 rfl 0 rfl ?_
    refine g_iload_n (pc := 9) C d_Sh_item_9 rfl 1 rfl ?_
    refine g_iload_n (pc := 10) C d_Sh_item_10 rfl 2 rfl ?_
    refine g_iconst (pc := 11) C (1 : Int32) d_Sh_item_11 (by decide) ?_
    obtain ⟨r4, hc5, h⟩ := o_bn1 h
    refine g_V (pc := 12) (rest := []) C (k_Sh_hasRun (xl X) ha0 hc5) sm_Sh_hasRun ml_Sh_31 im_Sh_hasRun se_Sh_hasRun gcX8 rfl ha0 ⟨rfl, rfl, Nat.le_of_ble_eq_true rfl, Nat.le_of_ble_eq_true rfl⟩ ⟨Nat.zero_le _, Nat.zero_le _⟩ rfl rfl (Nat.le_of_ble_eq_true rfl) d_Sh_item_12 [.int r4] rfl ?_
    refine g_if_eq (pc := 15) C 35 d_Sh_item_15 rfl (fun e6 => ?_) (fun e6 => ?_)
    · have h := o_pos e6 h
      refine g_lconst (pc := 35) C (0 : Int64) d_Sh_item_35 (by decide) ?_
      obtain rfl := o_ret h
      exact g_lret (pc := 36) C d_Sh_item_36
    · have h := o_neg e6 h
      refine g_iload_n (pc := 18) C d_Sh_item_18 rfl 2 rfl ?_
      refine g_bipush (pc := 19) C (40 : Int32) d_Sh_item_19 (by decide) ?_
      refine g_icmp_ge (pc := 21) C 35 d_Sh_item_21 rfl (fun e7 => ?_) (fun e7 => ?_)
      · have h := o_pos e7 h
        refine g_lconst (pc := 35) C (0 : Int64) d_Sh_item_35 (by decide) ?_
        obtain rfl := o_ret h
        exact g_lret (pc := 36) C d_Sh_item_36
      · have h := o_neg e7 h
        refine g_aload_n (pc := 24) C d_Sh_item_24 rfl 0 rfl ?_
        obtain ⟨b8, hnb8, hb8, h⟩ := o_ra h
        refine g_get (pc := 25) (k := 0) (v := va_rf ((N a0 0).map ad)) C gcX8 inX8 (by decide) fl_Sh_11 ha0 rfl d_Sh_item_25 ?_
        refine g_top (g_rf hnb8) ?_
        refine g_iload_n (pc := 28) C d_Sh_item_28 rfl 1 rfl ?_
        obtain ⟨hi9, h⟩ := o_gd h
        obtain ⟨b10, hnb10, hb10, h⟩ := o_ra h
        refine g_aald (pc := 29) 4 3 C hb8 (Or.inr ⟨rfl, rfl, rfl⟩) hi9 hnb10 d_Sh_item_29 ?_
        refine g_iload_n (pc := 30) C d_Sh_item_30 rfl 2 rfl ?_
        obtain ⟨hi11, h⟩ := o_gd h
        refine g_lald (pc := 31) C hb10 hi11 d_Sh_item_31 ?_
        refine g_goto (pc := 32) C 36 d_Sh_item_32 rfl ?_
        obtain rfl := o_ret h
        exact g_lret (pc := 36) C d_Sh_item_36
set_option maxRecDepth 20000 in
theorem k_Sh_item (l : Launch) {I : HI} {J : HJ} {N : HN} {a0 : Nat} {p1 : Int32} {p2 : Int32} {r : Int64} (ha0 : gk Tc nC a0 (0, 8)) (h : Sh_item I J N a0 p1 p2 = some r) : gM l y_Sh_item c_Sh_item 3 (some .long) rm_Sh_item Tc nC I J N (fun ad => [.ref (ad a0), .int p1, .int p2]) (I, J, N, fun _ => some (.long r)) :=
  g_meth (lv := fun ad => [(0, .ref (ad a0)), (1, .int p1), (2, .int p2)]) (by decide) (fun _ => Nat.le_of_ble_eq_true rfl) (fun _ => rfl) (fun X ad C => g_lv [0, 1, 2] rfl (w_Sh_item_0 C ha0 h))
theorem d_Sh_put_0 : decode c_Sh_put 0 = .ok (.aload_n 0, 1) := by decide +kernel
theorem d_Sh_put_1 : decode c_Sh_put 1 = .ok (.iload_n 1, 1) := by decide +kernel
theorem d_Sh_put_2 : decode c_Sh_put 2 = .ok (.invokevirtual 20, 3) := by decide +kernel
theorem d_Sh_put_5 : decode c_Sh_put 5 = .ok (.ifCond .eq 28, 3) := by decide +kernel
theorem d_Sh_put_8 : decode c_Sh_put 8 = .ok (.aload_n 0, 1) := by decide +kernel
theorem d_Sh_put_9 : decode c_Sh_put 9 = .ok (.iload_n 1, 1) := by decide +kernel
theorem d_Sh_put_10 : decode c_Sh_put 10 = .ok (.iload_n 2, 1) := by decide +kernel
theorem d_Sh_put_11 : decode c_Sh_put 11 = .ok (.iconst 1, 1) := by decide +kernel
theorem d_Sh_put_12 : decode c_Sh_put 12 = .ok (.invokevirtual 31, 3) := by decide +kernel
theorem d_Sh_put_15 : decode c_Sh_put 15 = .ok (.ifCond .eq 18, 3) := by decide +kernel
theorem d_Sh_put_18 : decode c_Sh_put 18 = .ok (.iload_n 2, 1) := by decide +kernel
theorem d_Sh_put_19 : decode c_Sh_put 19 = .ok (.bipush 40, 2) := by decide +kernel
theorem d_Sh_put_21 : decode c_Sh_put 21 = .ok (.if_icmp .ge 12, 3) := by decide +kernel
theorem d_Sh_put_24 : decode c_Sh_put 24 = .ok (.aload_n 0, 1) := by decide +kernel
theorem d_Sh_put_25 : decode c_Sh_put 25 = .ok (.getfield 11, 3) := by decide +kernel
theorem d_Sh_put_28 : decode c_Sh_put 28 = .ok (.iload_n 1, 1) := by decide +kernel
theorem d_Sh_put_29 : decode c_Sh_put 29 = .ok (.aaload, 1) := by decide +kernel
theorem d_Sh_put_30 : decode c_Sh_put 30 = .ok (.iload_n 2, 1) := by decide +kernel
theorem d_Sh_put_31 : decode c_Sh_put 31 = .ok (.lload_n 3, 1) := by decide +kernel
theorem d_Sh_put_32 : decode c_Sh_put 32 = .ok (.lastore, 1) := by decide +kernel
theorem d_Sh_put_33 : decode c_Sh_put 33 = .ok (.return_, 1) := by decide +kernel
set_option maxRecDepth 20000 in
theorem w_Sh_put_0 {X : HX} {ad : Nat → Nat} {I : HI} {J : HJ} {N : HN} {r : HJ} {a0 : Nat} {p1 : Int32} {p2 : Int32} {p3 : Int64} (C : Cx X c_Sh_put RX8 5 none rm_Sh_put) (ha0 : gk Tc nC a0 (0, 8))
    (h : Sh_put_0 I N a0 p1 p2 p3 J = some r) : G Tc X ad nC 0 0 I J N (gE X Tc ad nC (I, r, N, fun _ => none)) 0 5 [(0, .ref (ad a0)), (1, .int p1), (2, .int p2), (3, .long p3)] [] := by
  refine g_aload_n (pc := 0) C d_Sh_put_0 rfl 0 rfl ?_
  refine g_iload_n (pc := 1) C d_Sh_put_1 rfl 1 rfl ?_
  obtain ⟨r1, hc2, h⟩ := o_bn1 h
  refine g_V (pc := 2) (rest := []) C (k_Sh_isSheet (xl X) ha0 hc2) sm_Sh_isSheet ml_Sh_20 im_Sh_isSheet se_Sh_isSheet gcX8 rfl ha0 ⟨rfl, rfl, Nat.le_of_ble_eq_true rfl, Nat.le_of_ble_eq_true rfl⟩ ⟨Nat.zero_le _, Nat.zero_le _⟩ rfl rfl (Nat.le_of_ble_eq_true rfl) d_Sh_put_2 [.int r1] rfl ?_
  refine g_if_eq (pc := 5) C 33 d_Sh_put_5 rfl (fun e3 => ?_) (fun e3 => ?_)
  · have h := o_pos e3 h
    obtain rfl := o_ret h
    exact g_vret (pc := 33) C d_Sh_put_33
  · have h := o_neg e3 h
    refine g_aload_n (pc := 8) C d_Sh_put_8 rfl 0 rfl ?_
    refine g_iload_n (pc := 9) C d_Sh_put_9 rfl 1 rfl ?_
    refine g_iload_n (pc := 10) C d_Sh_put_10 rfl 2 rfl ?_
    refine g_iconst (pc := 11) C (1 : Int32) d_Sh_put_11 (by decide) ?_
    obtain ⟨r4, hc5, h⟩ := o_bn1 h
    refine g_V (pc := 12) (rest := []) C (k_Sh_hasRun (xl X) ha0 hc5) sm_Sh_hasRun ml_Sh_31 im_Sh_hasRun se_Sh_hasRun gcX8 rfl ha0 ⟨rfl, rfl, Nat.le_of_ble_eq_true rfl, Nat.le_of_ble_eq_true rfl⟩ ⟨Nat.zero_le _, Nat.zero_le _⟩ rfl rfl (Nat.le_of_ble_eq_true rfl) d_Sh_put_12 [.int r4] rfl ?_
    refine g_if_eq (pc := 15) C 33 d_Sh_put_15 rfl (fun e6 => ?_) (fun e6 => ?_)
    · have h := o_pos e6 h
      obtain rfl := o_ret h
      exact g_vret (pc := 33) C d_Sh_put_33
    · have h := o_neg e6 h
      refine g_iload_n (pc := 18) C d_Sh_put_18 rfl 2 rfl ?_
      refine g_bipush (pc := 19) C (40 : Int32) d_Sh_put_19 (by decide) ?_
      refine g_icmp_ge (pc := 21) C 33 d_Sh_put_21 rfl (fun e7 => ?_) (fun e7 => ?_)
      · have h := o_pos e7 h
        obtain rfl := o_ret h
        exact g_vret (pc := 33) C d_Sh_put_33
      · have h := o_neg e7 h
        refine g_aload_n (pc := 24) C d_Sh_put_24 rfl 0 rfl ?_
        obtain ⟨b8, hnb8, hb8, h⟩ := o_ra h
        refine g_get (pc := 25) (k := 0) (v := va_rf ((N a0 0).map ad)) C gcX8 inX8 (by decide) fl_Sh_11 ha0 rfl d_Sh_put_25 ?_
        refine g_top (g_rf hnb8) ?_
        refine g_iload_n (pc := 28) C d_Sh_put_28 rfl 1 rfl ?_
        obtain ⟨hi9, h⟩ := o_gd h
        obtain ⟨b10, hnb10, hb10, h⟩ := o_ra h
        refine g_aald (pc := 29) 4 3 C hb8 (Or.inr ⟨rfl, rfl, rfl⟩) hi9 hnb10 d_Sh_put_29 ?_
        refine g_iload_n (pc := 30) C d_Sh_put_30 rfl 2 rfl ?_
        refine g_lload_n (pc := 31) C d_Sh_put_31 rfl 3 rfl ?_
        obtain ⟨hi11, h⟩ := o_gd h
        refine g_last (pc := 32) C hb10 hi11 d_Sh_put_32 ?_
        obtain ⟨J12, eJ12, h⟩ := o_bd h
        rw [← eJ12]
        obtain rfl := o_ret h
        exact g_vret (pc := 33) C d_Sh_put_33
set_option maxRecDepth 20000 in
theorem k_Sh_put (l : Launch) {I : HI} {J : HJ} {N : HN} {a0 : Nat} {p1 : Int32} {p2 : Int32} {p3 : Int64} {r : HJ} (ha0 : gk Tc nC a0 (0, 8)) (h : Sh_put I N a0 p1 p2 p3 J = some r) : gM l y_Sh_put c_Sh_put 5 none rm_Sh_put Tc nC I J N (fun ad => [.ref (ad a0), .int p1, .int p2, .long p3]) (I, r, N, fun _ => none) :=
  g_meth (lv := fun ad => [(0, .ref (ad a0)), (1, .int p1), (2, .int p2), (3, .long p3)]) (by decide) (fun _ => Nat.le_of_ble_eq_true rfl) (fun _ => rfl) (fun X ad C => g_lv [0, 1, 2, 3] rfl (w_Sh_put_0 C ha0 h))
