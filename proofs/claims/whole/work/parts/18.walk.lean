theorem d_Mo_partDown_0 : decode c_Mo_partDown 0 = .ok (.aload_n 0, 1) := by decide +kernel
theorem d_Mo_partDown_1 : decode c_Mo_partDown 1 = .ok (.getfield 23, 3) := by decide +kernel
theorem d_Mo_partDown_4 : decode c_Mo_partDown 4 = .ok (.iconst 5, 1) := by decide +kernel
theorem d_Mo_partDown_5 : decode c_Mo_partDown 5 = .ok (.iload_n 1, 1) := by decide +kernel
theorem d_Mo_partDown_6 : decode c_Mo_partDown 6 = .ok (.iconst 2, 1) := by decide +kernel
theorem d_Mo_partDown_7 : decode c_Mo_partDown 7 = .ok (.idiv, 1) := by decide +kernel
theorem d_Mo_partDown_8 : decode c_Mo_partDown 8 = .ok (.imul, 1) := by decide +kernel
theorem d_Mo_partDown_9 : decode c_Mo_partDown 9 = .ok (.iconst 2, 1) := by decide +kernel
theorem d_Mo_partDown_10 : decode c_Mo_partDown 10 = .ok (.iadd, 1) := by decide +kernel
theorem d_Mo_partDown_11 : decode c_Mo_partDown 11 = .ok (.iconst 2, 1) := by decide +kernel
theorem d_Mo_partDown_12 : decode c_Mo_partDown 12 = .ok (.iload_n 1, 1) := by decide +kernel
theorem d_Mo_partDown_13 : decode c_Mo_partDown 13 = .ok (.iconst 2, 1) := by decide +kernel
theorem d_Mo_partDown_14 : decode c_Mo_partDown 14 = .ok (.irem, 1) := by decide +kernel
theorem d_Mo_partDown_15 : decode c_Mo_partDown 15 = .ok (.imul, 1) := by decide +kernel
theorem d_Mo_partDown_16 : decode c_Mo_partDown 16 = .ok (.iadd, 1) := by decide +kernel
theorem d_Mo_partDown_17 : decode c_Mo_partDown 17 = .ok (.iaload, 1) := by decide +kernel
theorem d_Mo_partDown_18 : decode c_Mo_partDown 18 = .ok (.ireturn, 1) := by decide +kernel
set_option maxRecDepth 20000 in
theorem w_Mo_partDown_0 {X : HX} {ad : Nat → Nat} {I : HI} {J : HJ} {N : HN} {r : Int32} {a0 : Nat} {p1 : Int32} (C : Cx X c_Mo_partDown RX11 2 (some .int) rm_Mo_partDown) (ha0 : gk Tm nM a0 (0, 11))
    (h : Mo_partDown_0 I N a0 p1 = some r) : G Tm X ad nM 0 0 I J N (gE X Tm ad nM (I, J, N, fun _ => some (.int r))) 0 2 [(0, .ref (ad a0)), (1, .int p1)] [] := by
  refine g_aload_n (pc := 0) C d_Mo_partDown_0 rfl 0 rfl ?_
  obtain ⟨b1, hnb1, hb1, h⟩ := o_ra h
  refine g_get (pc := 1) (k := 5) (v := va_rf ((N a0 5).map ad)) C gcX11 inX11 (by decide) fl_Mo_23 ha0 rfl d_Mo_partDown_1 ?_
  refine g_top (g_rf hnb1) ?_
  refine g_iconst (pc := 4) C (5 : Int32) d_Mo_partDown_4 (by decide) ?_
  refine g_iload_n (pc := 5) C d_Mo_partDown_5 rfl 1 rfl ?_
  refine g_iconst (pc := 6) C (2 : Int32) d_Mo_partDown_6 (by decide) ?_
  refine g_idiv (pc := 7) C d_Mo_partDown_7 (by decide) ?_
  refine g_imul (pc := 8) C d_Mo_partDown_8 ?_
  refine g_iconst (pc := 9) C (2 : Int32) d_Mo_partDown_9 (by decide) ?_
  refine g_iadd (pc := 10) C d_Mo_partDown_10 ?_
  refine g_iconst (pc := 11) C (2 : Int32) d_Mo_partDown_11 (by decide) ?_
  refine g_iload_n (pc := 12) C d_Mo_partDown_12 rfl 1 rfl ?_
  refine g_iconst (pc := 13) C (2 : Int32) d_Mo_partDown_13 (by decide) ?_
  refine g_irem (pc := 14) C d_Mo_partDown_14 (by decide) ?_
  refine g_imul (pc := 15) C d_Mo_partDown_15 ?_
  refine g_iadd (pc := 16) C d_Mo_partDown_16 ?_
  obtain ⟨hi2, h⟩ := o_gd h
  refine g_iald (pc := 17) C hb1 hi2 d_Mo_partDown_17 ?_
  obtain rfl := o_ret h
  exact g_iret (pc := 18) C d_Mo_partDown_18
set_option maxRecDepth 20000 in
theorem k_Mo_partDown (l : Launch) {I : HI} {J : HJ} {N : HN} {a0 : Nat} {p1 : Int32} {r : Int32} (ha0 : gk Tm nM a0 (0, 11)) (h : Mo_partDown I N a0 p1 = some r) : gM l y_Mo_partDown c_Mo_partDown 2 (some .int) rm_Mo_partDown Tm nM I J N (fun ad => [.ref (ad a0), .int p1]) (I, J, N, fun _ => some (.int r)) :=
  g_meth (lv := fun ad => [(0, .ref (ad a0)), (1, .int p1)]) (by decide) (fun _ => Nat.le_of_ble_eq_true rfl) (fun _ => rfl) (fun X ad C => g_lv [0, 1] rfl (w_Mo_partDown_0 C ha0 h))
theorem d_Mo_isLike_0 : decode c_Mo_isLike 0 = .ok (.aload_n 0, 1) := by decide +kernel
theorem d_Mo_isLike_1 : decode c_Mo_isLike 1 = .ok (.iload_n 1, 1) := by decide +kernel
theorem d_Mo_isLike_2 : decode c_Mo_isLike 2 = .ok (.invokevirtual 298, 3) := by decide +kernel
theorem d_Mo_isLike_5 : decode c_Mo_isLike 5 = .ok (.aload_n 0, 1) := by decide +kernel
theorem d_Mo_isLike_6 : decode c_Mo_isLike 6 = .ok (.iload_n 2, 1) := by decide +kernel
theorem d_Mo_isLike_7 : decode c_Mo_isLike 7 = .ok (.invokevirtual 298, 3) := by decide +kernel
theorem d_Mo_isLike_10 : decode c_Mo_isLike 10 = .ok (.if_icmp .ne 33, 3) := by decide +kernel
theorem d_Mo_isLike_13 : decode c_Mo_isLike 13 = .ok (.aload_n 0, 1) := by decide +kernel
theorem d_Mo_isLike_14 : decode c_Mo_isLike 14 = .ok (.iload_n 1, 1) := by decide +kernel
theorem d_Mo_isLike_15 : decode c_Mo_isLike 15 = .ok (.invokevirtual 301, 3) := by decide +kernel
theorem d_Mo_isLike_18 : decode c_Mo_isLike 18 = .ok (.aload_n 0, 1) := by decide +kernel
theorem d_Mo_isLike_19 : decode c_Mo_isLike 19 = .ok (.iload_n 2, 1) := by decide +kernel
theorem d_Mo_isLike_20 : decode c_Mo_isLike 20 = .ok (.invokevirtual 301, 3) := by decide +kernel
theorem d_Mo_isLike_23 : decode c_Mo_isLike 23 = .ok (.if_icmp .ne 20, 3) := by decide +kernel
theorem d_Mo_isLike_26 : decode c_Mo_isLike 26 = .ok (.iload_n 3, 1) := by decide +kernel
theorem d_Mo_isLike_27 : decode c_Mo_isLike 27 = .ok (.ifCond .eq 12, 3) := by decide +kernel
theorem d_Mo_isLike_30 : decode c_Mo_isLike 30 = .ok (.iload_n 1, 1) := by decide +kernel
theorem d_Mo_isLike_31 : decode c_Mo_isLike 31 = .ok (.iconst 2, 1) := by decide +kernel
theorem d_Mo_isLike_32 : decode c_Mo_isLike 32 = .ok (.irem, 1) := by decide +kernel
theorem d_Mo_isLike_33 : decode c_Mo_isLike 33 = .ok (.iload_n 2, 1) := by decide +kernel
theorem d_Mo_isLike_34 : decode c_Mo_isLike 34 = .ok (.iconst 2, 1) := by decide +kernel
theorem d_Mo_isLike_35 : decode c_Mo_isLike 35 = .ok (.irem, 1) := by decide +kernel
theorem d_Mo_isLike_36 : decode c_Mo_isLike 36 = .ok (.if_icmp .ne 7, 3) := by decide +kernel
theorem d_Mo_isLike_39 : decode c_Mo_isLike 39 = .ok (.iconst 1, 1) := by decide +kernel
theorem d_Mo_isLike_40 : decode c_Mo_isLike 40 = .ok (.goto 4, 3) := by decide +kernel
theorem d_Mo_isLike_43 : decode c_Mo_isLike 43 = .ok (.iconst 0, 1) := by decide +kernel
theorem d_Mo_isLike_44 : decode c_Mo_isLike 44 = .ok (.ireturn, 1) := by decide +kernel
set_option maxRecDepth 20000 in
theorem w_Mo_isLike_0 {X : HX} {ad : Nat → Nat} {I : HI} {J : HJ} {N : HN} {r : Int32} {a0 : Nat} {p1 : Int32} {p2 : Int32} {p3 : Int32} (C : Cx X c_Mo_isLike RX11 4 (some .boolean) rm_Mo_isLike) (ha0 : gk Tm nM a0 (0, 11))
    (h : Mo_isLike_0 I N a0 p1 p2 p3 = some r) : G Tm X ad nM 0 0 I J N (gE X Tm ad nM (I, J, N, fun _ => some (.int r))) 0 4 [(0, .ref (ad a0)), (1, .int p1), (2, .int p2), (3, .int p3)] [] := by
  refine g_aload_n (pc := 0) C d_Mo_isLike_0 rfl 0 rfl ?_
  refine g_iload_n (pc := 1) C d_Mo_isLike_1 rfl 1 rfl ?_
  obtain ⟨r1, hc2, h⟩ := o_bn1 h
  refine g_V (pc := 2) (rest := []) C (k_Mo_partUp (xl X) ha0 hc2) sm_Mo_partUp ml_Mo_298 im_Mo_partUp se_Mo_partUp gcX11 rfl ha0 ⟨rfl, rfl, Nat.le_of_ble_eq_true rfl, Nat.le_of_ble_eq_true rfl⟩ ⟨Nat.zero_le _, Nat.zero_le _⟩ rfl rfl (Nat.le_of_ble_eq_true rfl) d_Mo_isLike_2 [.int r1] rfl ?_
  refine g_aload_n (pc := 5) C d_Mo_isLike_5 rfl 0 rfl ?_
  refine g_iload_n (pc := 6) C d_Mo_isLike_6 rfl 2 rfl ?_
  obtain ⟨r3, hc4, h⟩ := o_bn1 h
  refine g_V (pc := 7) (rest := [.int r1]) C (k_Mo_partUp (xl X) ha0 hc4) sm_Mo_partUp ml_Mo_298 im_Mo_partUp se_Mo_partUp gcX11 rfl ha0 ⟨rfl, rfl, Nat.le_of_ble_eq_true rfl, Nat.le_of_ble_eq_true rfl⟩ ⟨Nat.zero_le _, Nat.zero_le _⟩ rfl rfl (Nat.le_of_ble_eq_true rfl) d_Mo_isLike_7 [.int r3, .int r1] rfl ?_
  refine g_icmp_ne (pc := 10) C 43 d_Mo_isLike_10 rfl (fun e5 => ?_) (fun e5 => ?_)
  · have h := o_neg e5 h
    refine g_iconst (pc := 43) C (0 : Int32) d_Mo_isLike_43 (by decide) ?_
    obtain rfl := o_ret h
    exact g_zret (pc := 44) C zn_0 d_Mo_isLike_44
  · have h := o_pos e5 h
    refine g_aload_n (pc := 13) C d_Mo_isLike_13 rfl 0 rfl ?_
    refine g_iload_n (pc := 14) C d_Mo_isLike_14 rfl 1 rfl ?_
    obtain ⟨r6, hc7, h⟩ := o_bn1 h
    refine g_V (pc := 15) (rest := []) C (k_Mo_partDown (xl X) ha0 hc7) sm_Mo_partDown ml_Mo_301 im_Mo_partDown se_Mo_partDown gcX11 rfl ha0 ⟨rfl, rfl, Nat.le_of_ble_eq_true rfl, Nat.le_of_ble_eq_true rfl⟩ ⟨Nat.zero_le _, Nat.zero_le _⟩ rfl rfl (Nat.le_of_ble_eq_true rfl) d_Mo_isLike_15 [.int r6] rfl ?_
    refine g_aload_n (pc := 18) C d_Mo_isLike_18 rfl 0 rfl ?_
    refine g_iload_n (pc := 19) C d_Mo_isLike_19 rfl 2 rfl ?_
    obtain ⟨r8, hc9, h⟩ := o_bn1 h
    refine g_V (pc := 20) (rest := [.int r6]) C (k_Mo_partDown (xl X) ha0 hc9) sm_Mo_partDown ml_Mo_301 im_Mo_partDown se_Mo_partDown gcX11 rfl ha0 ⟨rfl, rfl, Nat.le_of_ble_eq_true rfl, Nat.le_of_ble_eq_true rfl⟩ ⟨Nat.zero_le _, Nat.zero_le _⟩ rfl rfl (Nat.le_of_ble_eq_true rfl) d_Mo_isLike_20 [.int r8, .int r6] rfl ?_
    refine g_icmp_ne (pc := 23) C 43 d_Mo_isLike_23 rfl (fun e10 => ?_) (fun e10 => ?_)
    · have h := o_neg e10 h
      refine g_iconst (pc := 43) C (0 : Int32) d_Mo_isLike_43 (by decide) ?_
      obtain rfl := o_ret h
      exact g_zret (pc := 44) C zn_0 d_Mo_isLike_44
    · have h := o_pos e10 h
      refine g_iload_n (pc := 26) C d_Mo_isLike_26 rfl 3 rfl ?_
      refine g_if_eq (pc := 27) C 39 d_Mo_isLike_27 rfl (fun e11 => ?_) (fun e11 => ?_)
      · have h := o_pos e11 h
        refine g_iconst (pc := 39) C (1 : Int32) d_Mo_isLike_39 (by decide) ?_
        refine g_goto (pc := 40) C 44 d_Mo_isLike_40 rfl ?_
        obtain rfl := o_ret h
        exact g_zret (pc := 44) C zn_1 d_Mo_isLike_44
      · have h := o_neg e11 h
        refine g_iload_n (pc := 30) C d_Mo_isLike_30 rfl 1 rfl ?_
        refine g_iconst (pc := 31) C (2 : Int32) d_Mo_isLike_31 (by decide) ?_
        refine g_irem (pc := 32) C d_Mo_isLike_32 (by decide) ?_
        refine g_iload_n (pc := 33) C d_Mo_isLike_33 rfl 2 rfl ?_
        refine g_iconst (pc := 34) C (2 : Int32) d_Mo_isLike_34 (by decide) ?_
        refine g_irem (pc := 35) C d_Mo_isLike_35 (by decide) ?_
        refine g_icmp_ne (pc := 36) C 43 d_Mo_isLike_36 rfl (fun e12 => ?_) (fun e12 => ?_)
        · have h := o_neg e12 h
          refine g_iconst (pc := 43) C (0 : Int32) d_Mo_isLike_43 (by decide) ?_
          obtain rfl := o_ret h
          exact g_zret (pc := 44) C zn_0 d_Mo_isLike_44
        · have h := o_pos e12 h
          refine g_iconst (pc := 39) C (1 : Int32) d_Mo_isLike_39 (by decide) ?_
          refine g_goto (pc := 40) C 44 d_Mo_isLike_40 rfl ?_
          obtain rfl := o_ret h
          exact g_zret (pc := 44) C zn_1 d_Mo_isLike_44
set_option maxRecDepth 20000 in
theorem k_Mo_isLike (l : Launch) {I : HI} {J : HJ} {N : HN} {a0 : Nat} {p1 : Int32} {p2 : Int32} {p3 : Int32} {r : Int32} (ha0 : gk Tm nM a0 (0, 11)) (h : Mo_isLike I N a0 p1 p2 p3 = some r) : gM l y_Mo_isLike c_Mo_isLike 4 (some .boolean) rm_Mo_isLike Tm nM I J N (fun ad => [.ref (ad a0), .int p1, .int p2, .int p3]) (I, J, N, fun _ => some (.int r)) :=
  g_meth (lv := fun ad => [(0, .ref (ad a0)), (1, .int p1), (2, .int p2), (3, .int p3)]) (by decide) (fun _ => Nat.le_of_ble_eq_true rfl) (fun _ => rfl) (fun X ad C => g_lv [0, 1, 2, 3] rfl (w_Mo_isLike_0 C ha0 h))
theorem d_Mo_isFirst_0 : decode c_Mo_isFirst 0 = .ok (.aload_n 0, 1) := by decide +kernel
theorem d_Mo_isFirst_1 : decode c_Mo_isFirst 1 = .ok (.iload_n 1, 1) := by decide +kernel
theorem d_Mo_isFirst_2 : decode c_Mo_isFirst 2 = .ok (.invokevirtual 298, 3) := by decide +kernel
theorem d_Mo_isFirst_5 : decode c_Mo_isFirst 5 = .ok (.ifCond .le 7, 3) := by decide +kernel
theorem d_Mo_isFirst_8 : decode c_Mo_isFirst 8 = .ok (.iconst 1, 1) := by decide +kernel
theorem d_Mo_isFirst_9 : decode c_Mo_isFirst 9 = .ok (.goto 4, 3) := by decide +kernel
theorem d_Mo_isFirst_12 : decode c_Mo_isFirst 12 = .ok (.iconst 0, 1) := by decide +kernel
theorem d_Mo_isFirst_13 : decode c_Mo_isFirst 13 = .ok (.istore_n 3, 1) := by decide +kernel
theorem d_Mo_isFirst_14 : decode c_Mo_isFirst 14 = .ok (.iconst 0, 1) := by decide +kernel
theorem d_Mo_isFirst_15 : decode c_Mo_isFirst 15 = .ok (.istore 4, 2) := by decide +kernel
theorem d_Mo_isFirst_17 : decode c_Mo_isFirst 17 = .ok (.iload 4, 2) := by decide +kernel
theorem d_Mo_isFirst_19 : decode c_Mo_isFirst 19 = .ok (.iload_n 1, 1) := by decide +kernel
theorem d_Mo_isFirst_20 : decode c_Mo_isFirst 20 = .ok (.if_icmp .ge 30, 3) := by decide +kernel
theorem d_Mo_isFirst_23 : decode c_Mo_isFirst 23 = .ok (.iload_n 3, 1) := by decide +kernel
theorem d_Mo_isFirst_24 : decode c_Mo_isFirst 24 = .ok (.ifCond .eq 18, 3) := by decide +kernel
theorem d_Mo_isFirst_27 : decode c_Mo_isFirst 27 = .ok (.aload_n 0, 1) := by decide +kernel
theorem d_Mo_isFirst_28 : decode c_Mo_isFirst 28 = .ok (.iload 4, 2) := by decide +kernel
theorem d_Mo_isFirst_30 : decode c_Mo_isFirst 30 = .ok (.iload_n 1, 1) := by decide +kernel
theorem d_Mo_isFirst_31 : decode c_Mo_isFirst 31 = .ok (.iload_n 2, 1) := by decide +kernel
theorem d_Mo_isFirst_32 : decode c_Mo_isFirst 32 = .ok (.invokevirtual 304, 3) := by decide +kernel
theorem d_Mo_isFirst_35 : decode c_Mo_isFirst 35 = .ok (.ifCond .ne 7, 3) := by decide +kernel
theorem d_Mo_isFirst_38 : decode c_Mo_isFirst 38 = .ok (.iconst 1, 1) := by decide +kernel
theorem d_Mo_isFirst_39 : decode c_Mo_isFirst 39 = .ok (.goto 4, 3) := by decide +kernel
theorem d_Mo_isFirst_42 : decode c_Mo_isFirst 42 = .ok (.iconst 0, 1) := by decide +kernel
theorem d_Mo_isFirst_43 : decode c_Mo_isFirst 43 = .ok (.istore_n 3, 1) := by decide +kernel
theorem d_Mo_isFirst_44 : decode c_Mo_isFirst 44 = .ok (.iinc 4 1, 3) := by decide +kernel
theorem d_Mo_isFirst_47 : decode c_Mo_isFirst 47 = .ok (.goto (-30), 3) := by decide +kernel
theorem d_Mo_isFirst_50 : decode c_Mo_isFirst 50 = .ok (.iload_n 3, 1) := by decide +kernel
theorem d_Mo_isFirst_51 : decode c_Mo_isFirst 51 = .ok (.ireturn, 1) := by decide +kernel
set_option maxRecDepth 20000 in
theorem w_Mo_isFirst_43 {X : HX} {ad : Nat → Nat} {I : HI} {J : HJ} {N : HN} {r : Int32} {k17 : Int32 → Int32 → Option (Int32)} {a0 : Nat} {p1 : Int32} {p2 : Int32} {x4 : Int32} {s0 : Int32} (C : Cx X c_Mo_isFirst RX11 5 (some .boolean) rm_Mo_isFirst) (ha0 : gk Tm nM a0 (0, 11))
    (hk17 : ∀ (x3 : Int32) (x4 : Int32), k17 x3 x4 = some r → G Tm X ad nM 0 0 I J N (gE X Tm ad nM (I, J, N, fun _ => some (.int r))) 17 5 [(0, .ref (ad a0)), (1, .int p1), (2, .int p2), (3, .int x3), (4, .int x4)] [])
    (h : Mo_isFirst_43 I N a0 p1 p2 k17 x4 s0 = some r) : G Tm X ad nM 0 0 I J N (gE X Tm ad nM (I, J, N, fun _ => some (.int r))) 43 5 [(0, .ref (ad a0)), (1, .int p1), (2, .int p2), (4, .int x4)] [.int s0] := by
  refine g_istore_n (pc := 43) (lv' := [(3, .int s0), (0, .ref (ad a0)), (1, .int p1), (2, .int p2), (4, .int x4)]) C d_Mo_isFirst_43 rfl (by decide) rfl ?_
  refine g_iinc (pc := 44) (q := 4) (lv' := [(4, .int (x4 + 1)), (3, .int s0), (0, .ref (ad a0)), (1, .int p1), (2, .int p2)]) C d_Mo_isFirst_44 rfl rfl (by decide) rfl ?_
  refine g_goto (pc := 47) C 17 d_Mo_isFirst_47 rfl ?_
  refine g_lv [2, 3, 4, 1, 0] rfl ?_
  exact hk17 _ _ h
set_option maxRecDepth 20000 in
theorem w_Mo_isFirst_42 {X : HX} {ad : Nat → Nat} {I : HI} {J : HJ} {N : HN} {r : Int32} {k17 : Int32 → Int32 → Option (Int32)} {a0 : Nat} {p1 : Int32} {p2 : Int32} {x4 : Int32} (C : Cx X c_Mo_isFirst RX11 5 (some .boolean) rm_Mo_isFirst) (ha0 : gk Tm nM a0 (0, 11))
    (hk17 : ∀ (x3 : Int32) (x4 : Int32), k17 x3 x4 = some r → G Tm X ad nM 0 0 I J N (gE X Tm ad nM (I, J, N, fun _ => some (.int r))) 17 5 [(0, .ref (ad a0)), (1, .int p1), (2, .int p2), (3, .int x3), (4, .int x4)] [])
    (h : Mo_isFirst_42 I N a0 p1 p2 k17 x4 = some r) : G Tm X ad nM 0 0 I J N (gE X Tm ad nM (I, J, N, fun _ => some (.int r))) 42 5 [(0, .ref (ad a0)), (1, .int p1), (2, .int p2), (4, .int x4)] [] := by
  refine g_iconst (pc := 42) C (0 : Int32) d_Mo_isFirst_42 (by decide) ?_
  refine g_lv [0, 1, 2, 3] rfl ?_
  exact w_Mo_isFirst_43 C ha0 hk17 h
set_option maxRecDepth 20000 in
theorem w_Mo_isFirst_17b {X : HX} {ad : Nat → Nat} {I : HI} {J : HJ} {N : HN} {r : Int32} {k17 : Int32 → Int32 → Option (Int32)} {a0 : Nat} {p1 : Int32} {p2 : Int32} {x3 : Int32} {x4 : Int32} (C : Cx X c_Mo_isFirst RX11 5 (some .boolean) rm_Mo_isFirst) (ha0 : gk Tm nM a0 (0, 11))
    (hk17 : ∀ (x3 : Int32) (x4 : Int32), k17 x3 x4 = some r → G Tm X ad nM 0 0 I J N (gE X Tm ad nM (I, J, N, fun _ => some (.int r))) 17 5 [(0, .ref (ad a0)), (1, .int p1), (2, .int p2), (3, .int x3), (4, .int x4)] [])
    (h : Mo_isFirst_17b I N a0 p1 p2 k17 x3 x4 = some r) : G Tm X ad nM 0 0 I J N (gE X Tm ad nM (I, J, N, fun _ => some (.int r))) 17 5 [(0, .ref (ad a0)), (1, .int p1), (2, .int p2), (3, .int x3), (4, .int x4)] [] := by
  refine g_iload (pc := 17) C d_Mo_isFirst_17 4 rfl ?_
  refine g_iload_n (pc := 19) C d_Mo_isFirst_19 rfl 1 rfl ?_
  refine g_icmp_ge (pc := 20) C 50 d_Mo_isFirst_20 rfl (fun e1 => ?_) (fun e1 => ?_)
  · have h := o_pos e1 h
    refine g_iload_n (pc := 50) C d_Mo_isFirst_50 rfl 3 rfl ?_
    obtain ⟨hz2, h⟩ := o_gd h
    obtain rfl := o_ret h
    exact g_zret (pc := 51) C (zn_B hz2) d_Mo_isFirst_51
  · have h := o_neg e1 h
    refine g_iload_n (pc := 23) C d_Mo_isFirst_23 rfl 3 rfl ?_
    refine g_if_eq (pc := 24) C 42 d_Mo_isFirst_24 rfl (fun e3 => ?_) (fun e3 => ?_)
    · have h := o_pos e3 h
      refine g_lv [0, 1, 2, 4] rfl ?_
      exact w_Mo_isFirst_42 C ha0 hk17 h
    · have h := o_neg e3 h
      refine g_aload_n (pc := 27) C d_Mo_isFirst_27 rfl 0 rfl ?_
      refine g_iload (pc := 28) C d_Mo_isFirst_28 4 rfl ?_
      refine g_iload_n (pc := 30) C d_Mo_isFirst_30 rfl 1 rfl ?_
      refine g_iload_n (pc := 31) C d_Mo_isFirst_31 rfl 2 rfl ?_
      obtain ⟨r4, hc5, h⟩ := o_bn1 h
      refine g_V (pc := 32) (rest := []) C (k_Mo_isLike (xl X) ha0 hc5) sm_Mo_isLike ml_Mo_304 im_Mo_isLike se_Mo_isLike gcX11 rfl ha0 ⟨rfl, rfl, Nat.le_of_ble_eq_true rfl, Nat.le_of_ble_eq_true rfl⟩ ⟨Nat.zero_le _, Nat.zero_le _⟩ rfl rfl (Nat.le_of_ble_eq_true rfl) d_Mo_isFirst_32 [.int r4] rfl ?_
      refine g_if_ne (pc := 35) C 42 d_Mo_isFirst_35 rfl (fun e6 => ?_) (fun e6 => ?_)
      · have h := o_neg e6 h
        refine g_lv [0, 1, 2, 4] rfl ?_
        exact w_Mo_isFirst_42 C ha0 hk17 h
      · have h := o_pos e6 h
        refine g_iconst (pc := 38) C (1 : Int32) d_Mo_isFirst_38 (by decide) ?_
        refine g_goto (pc := 39) C 43 d_Mo_isFirst_39 rfl ?_
        refine g_lv [0, 1, 2, 4] rfl ?_
        exact w_Mo_isFirst_43 C ha0 hk17 h
set_option maxRecDepth 20000 in
theorem w_Mo_isFirst_17 {X : HX} {ad : Nat → Nat} {I : HI} {J : HJ} {N : HN} {r : Int32} {a0 : Nat} {p1 : Int32} {p2 : Int32} (C : Cx X c_Mo_isFirst RX11 5 (some .boolean) rm_Mo_isFirst) (ha0 : gk Tm nM a0 (0, 11)) : ∀ (n : Nat) (x3 : Int32) (x4 : Int32), Mo_isFirst_17 I N a0 p1 p2 n x3 x4 = some r → G Tm X ad nM 0 0 I J N (gE X Tm ad nM (I, J, N, fun _ => some (.int r))) 17 5 [(0, .ref (ad a0)), (1, .int p1), (2, .int p2), (3, .int x3), (4, .int x4)] [] := by
  intro n
  induction n with
  | zero => intro x3 x4 h; cases h
  | succ n ih => intro x3 x4 h; exact w_Mo_isFirst_17b C ha0 ih h
set_option maxRecDepth 20000 in
theorem w_Mo_isFirst_13 {X : HX} {ad : Nat → Nat} {I : HI} {J : HJ} {N : HN} {r : Int32} {a0 : Nat} {p1 : Int32} {p2 : Int32} {s0 : Int32} (C : Cx X c_Mo_isFirst RX11 5 (some .boolean) rm_Mo_isFirst) (ha0 : gk Tm nM a0 (0, 11))
    (h : Mo_isFirst_13 I N a0 p1 p2 s0 = some r) : G Tm X ad nM 0 0 I J N (gE X Tm ad nM (I, J, N, fun _ => some (.int r))) 13 5 [(0, .ref (ad a0)), (1, .int p1), (2, .int p2)] [.int s0] := by
  refine g_istore_n (pc := 13) (lv' := [(3, .int s0), (0, .ref (ad a0)), (1, .int p1), (2, .int p2)]) C d_Mo_isFirst_13 rfl (by decide) rfl ?_
  refine g_iconst (pc := 14) C (0 : Int32) d_Mo_isFirst_14 (by decide) ?_
  refine g_istore (pc := 15) (lv' := [(4, .int (0 : Int32)), (3, .int s0), (0, .ref (ad a0)), (1, .int p1), (2, .int p2)]) C d_Mo_isFirst_15 (by decide) rfl ?_
  refine g_lv [2, 3, 4, 1, 0] rfl ?_
  exact w_Mo_isFirst_17 C ha0 _ _ _ h
set_option maxRecDepth 20000 in
theorem w_Mo_isFirst_0 {X : HX} {ad : Nat → Nat} {I : HI} {J : HJ} {N : HN} {r : Int32} {a0 : Nat} {p1 : Int32} {p2 : Int32} (C : Cx X c_Mo_isFirst RX11 5 (some .boolean) rm_Mo_isFirst) (ha0 : gk Tm nM a0 (0, 11))
    (h : Mo_isFirst_0 I N a0 p1 p2 = some r) : G Tm X ad nM 0 0 I J N (gE X Tm ad nM (I, J, N, fun _ => some (.int r))) 0 5 [(0, .ref (ad a0)), (1, .int p1), (2, .int p2)] [] := by
  refine g_aload_n (pc := 0) C d_Mo_isFirst_0 rfl 0 rfl ?_
  refine g_iload_n (pc := 1) C d_Mo_isFirst_1 rfl 1 rfl ?_
  obtain ⟨r1, hc2, h⟩ := o_bn1 h
  refine g_V (pc := 2) (rest := []) C (k_Mo_partUp (xl X) ha0 hc2) sm_Mo_partUp ml_Mo_298 im_Mo_partUp se_Mo_partUp gcX11 rfl ha0 ⟨rfl, rfl, Nat.le_of_ble_eq_true rfl, Nat.le_of_ble_eq_true rfl⟩ ⟨Nat.zero_le _, Nat.zero_le _⟩ rfl rfl (Nat.le_of_ble_eq_true rfl) d_Mo_isFirst_2 [.int r1] rfl ?_
  refine g_if_le (pc := 5) C 12 d_Mo_isFirst_5 rfl (fun e3 => ?_) (fun e3 => ?_)
  · have h := o_pos e3 h
    refine g_iconst (pc := 12) C (0 : Int32) d_Mo_isFirst_12 (by decide) ?_
    refine g_lv [0, 1, 2] rfl ?_
    exact w_Mo_isFirst_13 C ha0 h
  · have h := o_neg e3 h
    refine g_iconst (pc := 8) C (1 : Int32) d_Mo_isFirst_8 (by decide) ?_
    refine g_goto (pc := 9) C 13 d_Mo_isFirst_9 rfl ?_
    refine g_lv [0, 1, 2] rfl ?_
    exact w_Mo_isFirst_13 C ha0 h
set_option maxRecDepth 20000 in
theorem k_Mo_isFirst (l : Launch) {I : HI} {J : HJ} {N : HN} {a0 : Nat} {p1 : Int32} {p2 : Int32} {r : Int32} (ha0 : gk Tm nM a0 (0, 11)) (h : Mo_isFirst I N a0 p1 p2 = some r) : gM l y_Mo_isFirst c_Mo_isFirst 5 (some .boolean) rm_Mo_isFirst Tm nM I J N (fun ad => [.ref (ad a0), .int p1, .int p2]) (I, J, N, fun _ => some (.int r)) :=
  g_meth (lv := fun ad => [(0, .ref (ad a0)), (1, .int p1), (2, .int p2)]) (by decide) (fun _ => Nat.le_of_ble_eq_true rfl) (fun _ => rfl) (fun X ad C => g_lv [0, 1, 2] rfl (w_Mo_isFirst_0 C ha0 h))
theorem d_Mo_parts_0 : decode c_Mo_parts 0 = .ok (.iconst 0, 1) := by decide +kernel
theorem d_Mo_parts_1 : decode c_Mo_parts 1 = .ok (.istore_n 2, 1) := by decide +kernel
theorem d_Mo_parts_2 : decode c_Mo_parts 2 = .ok (.iconst 0, 1) := by decide +kernel
theorem d_Mo_parts_3 : decode c_Mo_parts 3 = .ok (.istore_n 3, 1) := by decide +kernel
theorem d_Mo_parts_4 : decode c_Mo_parts 4 = .ok (.iload_n 3, 1) := by decide +kernel
theorem d_Mo_parts_5 : decode c_Mo_parts 5 = .ok (.iconst 2, 1) := by decide +kernel
theorem d_Mo_parts_6 : decode c_Mo_parts 6 = .ok (.aload_n 0, 1) := by decide +kernel
theorem d_Mo_parts_7 : decode c_Mo_parts 7 = .ok (.getfield 159, 3) := by decide +kernel
theorem d_Mo_parts_10 : decode c_Mo_parts 10 = .ok (.imul, 1) := by decide +kernel
theorem d_Mo_parts_11 : decode c_Mo_parts 11 = .ok (.if_icmp .ge 26, 3) := by decide +kernel
theorem d_Mo_parts_14 : decode c_Mo_parts 14 = .ok (.iload_n 2, 1) := by decide +kernel
theorem d_Mo_parts_15 : decode c_Mo_parts 15 = .ok (.aload_n 0, 1) := by decide +kernel
theorem d_Mo_parts_16 : decode c_Mo_parts 16 = .ok (.iload_n 3, 1) := by decide +kernel
theorem d_Mo_parts_17 : decode c_Mo_parts 17 = .ok (.iload_n 1, 1) := by decide +kernel
theorem d_Mo_parts_18 : decode c_Mo_parts 18 = .ok (.invokevirtual 308, 3) := by decide +kernel
theorem d_Mo_parts_21 : decode c_Mo_parts 21 = .ok (.ifCond .eq 7, 3) := by decide +kernel
theorem d_Mo_parts_24 : decode c_Mo_parts 24 = .ok (.iconst 1, 1) := by decide +kernel
theorem d_Mo_parts_25 : decode c_Mo_parts 25 = .ok (.goto 4, 3) := by decide +kernel
theorem d_Mo_parts_28 : decode c_Mo_parts 28 = .ok (.iconst 0, 1) := by decide +kernel
theorem d_Mo_parts_29 : decode c_Mo_parts 29 = .ok (.iadd, 1) := by decide +kernel
theorem d_Mo_parts_30 : decode c_Mo_parts 30 = .ok (.istore_n 2, 1) := by decide +kernel
theorem d_Mo_parts_31 : decode c_Mo_parts 31 = .ok (.iinc 3 1, 3) := by decide +kernel
theorem d_Mo_parts_34 : decode c_Mo_parts 34 = .ok (.goto (-30), 3) := by decide +kernel
theorem d_Mo_parts_37 : decode c_Mo_parts 37 = .ok (.iload_n 2, 1) := by decide +kernel
theorem d_Mo_parts_38 : decode c_Mo_parts 38 = .ok (.ireturn, 1) := by decide +kernel
set_option maxRecDepth 20000 in
theorem w_Mo_parts_29 {X : HX} {ad : Nat → Nat} {I : HI} {J : HJ} {N : HN} {r : Int32} {k4 : Int32 → Int32 → Option (Int32)} {a0 : Nat} {p1 : Int32} {x3 : Int32} {s0 : Int32} {s1 : Int32} (C : Cx X c_Mo_parts RX11 4 (some .int) rm_Mo_parts) (ha0 : gk Tm nM a0 (0, 11))
    (hk4 : ∀ (x2 : Int32) (x3 : Int32), k4 x2 x3 = some r → G Tm X ad nM 0 0 I J N (gE X Tm ad nM (I, J, N, fun _ => some (.int r))) 4 4 [(0, .ref (ad a0)), (1, .int p1), (2, .int x2), (3, .int x3)] [])
    (h : Mo_parts_29 I N a0 p1 k4 x3 s0 s1 = some r) : G Tm X ad nM 0 0 I J N (gE X Tm ad nM (I, J, N, fun _ => some (.int r))) 29 4 [(0, .ref (ad a0)), (1, .int p1), (3, .int x3)] [.int s1, .int s0] := by
  refine g_iadd (pc := 29) C d_Mo_parts_29 ?_
  obtain ⟨v1, ev1, h⟩ := o_bd h
  refine g_topi ev1 ?_
  refine g_istore_n (pc := 30) (lv' := [(2, .int v1), (0, .ref (ad a0)), (1, .int p1), (3, .int x3)]) C d_Mo_parts_30 rfl (by decide) rfl ?_
  refine g_iinc (pc := 31) (q := 3) (lv' := [(3, .int (x3 + 1)), (2, .int v1), (0, .ref (ad a0)), (1, .int p1)]) C d_Mo_parts_31 rfl rfl (by decide) rfl ?_
  refine g_goto (pc := 34) C 4 d_Mo_parts_34 rfl ?_
  refine g_lv [2, 3, 1, 0] rfl ?_
  exact hk4 _ _ h
set_option maxRecDepth 20000 in
theorem w_Mo_parts_4b {X : HX} {ad : Nat → Nat} {I : HI} {J : HJ} {N : HN} {r : Int32} {k4 : Int32 → Int32 → Option (Int32)} {a0 : Nat} {p1 : Int32} {x2 : Int32} {x3 : Int32} (C : Cx X c_Mo_parts RX11 4 (some .int) rm_Mo_parts) (ha0 : gk Tm nM a0 (0, 11))
    (hk4 : ∀ (x2 : Int32) (x3 : Int32), k4 x2 x3 = some r → G Tm X ad nM 0 0 I J N (gE X Tm ad nM (I, J, N, fun _ => some (.int r))) 4 4 [(0, .ref (ad a0)), (1, .int p1), (2, .int x2), (3, .int x3)] [])
    (h : Mo_parts_4b I N a0 p1 k4 x2 x3 = some r) : G Tm X ad nM 0 0 I J N (gE X Tm ad nM (I, J, N, fun _ => some (.int r))) 4 4 [(0, .ref (ad a0)), (1, .int p1), (2, .int x2), (3, .int x3)] [] := by
  refine g_iload_n (pc := 4) C d_Mo_parts_4 rfl 3 rfl ?_
  refine g_iconst (pc := 5) C (2 : Int32) d_Mo_parts_5 (by decide) ?_
  refine g_aload_n (pc := 6) C d_Mo_parts_6 rfl 0 rfl ?_
  refine g_get (pc := 7) (k := 6) (v := .int (I a0 6)) C gcX11 inX11 (by decide) fl_Mo_159 ha0 rfl d_Mo_parts_7 ?_
  refine g_imul (pc := 10) C d_Mo_parts_10 ?_
  refine g_icmp_ge (pc := 11) C 37 d_Mo_parts_11 rfl (fun e1 => ?_) (fun e1 => ?_)
  · have h := o_pos e1 h
    refine g_iload_n (pc := 37) C d_Mo_parts_37 rfl 2 rfl ?_
    obtain rfl := o_ret h
    exact g_iret (pc := 38) C d_Mo_parts_38
  · have h := o_neg e1 h
    refine g_iload_n (pc := 14) C d_Mo_parts_14 rfl 2 rfl ?_
    refine g_aload_n (pc := 15) C d_Mo_parts_15 rfl 0 rfl ?_
    refine g_iload_n (pc := 16) C d_Mo_parts_16 rfl 3 rfl ?_
    refine g_iload_n (pc := 17) C d_Mo_parts_17 rfl 1 rfl ?_
    obtain ⟨r2, hc3, h⟩ := o_bn1 h
    refine g_V (pc := 18) (rest := [.int x2]) C (k_Mo_isFirst (xl X) ha0 hc3) sm_Mo_isFirst ml_Mo_308 im_Mo_isFirst se_Mo_isFirst gcX11 rfl ha0 ⟨rfl, rfl, Nat.le_of_ble_eq_true rfl, Nat.le_of_ble_eq_true rfl⟩ ⟨Nat.zero_le _, Nat.zero_le _⟩ rfl rfl (Nat.le_of_ble_eq_true rfl) d_Mo_parts_18 [.int r2, .int x2] rfl ?_
    refine g_if_eq (pc := 21) C 28 d_Mo_parts_21 rfl (fun e4 => ?_) (fun e4 => ?_)
    · have h := o_pos e4 h
      refine g_iconst (pc := 28) C (0 : Int32) d_Mo_parts_28 (by decide) ?_
      refine g_lv [0, 1, 3] rfl ?_
      exact w_Mo_parts_29 C ha0 hk4 h
    · have h := o_neg e4 h
      refine g_iconst (pc := 24) C (1 : Int32) d_Mo_parts_24 (by decide) ?_
      refine g_goto (pc := 25) C 29 d_Mo_parts_25 rfl ?_
      refine g_lv [0, 1, 3] rfl ?_
      exact w_Mo_parts_29 C ha0 hk4 h
set_option maxRecDepth 20000 in
theorem w_Mo_parts_4 {X : HX} {ad : Nat → Nat} {I : HI} {J : HJ} {N : HN} {r : Int32} {a0 : Nat} {p1 : Int32} (C : Cx X c_Mo_parts RX11 4 (some .int) rm_Mo_parts) (ha0 : gk Tm nM a0 (0, 11)) : ∀ (n : Nat) (x2 : Int32) (x3 : Int32), Mo_parts_4 I N a0 p1 n x2 x3 = some r → G Tm X ad nM 0 0 I J N (gE X Tm ad nM (I, J, N, fun _ => some (.int r))) 4 4 [(0, .ref (ad a0)), (1, .int p1), (2, .int x2), (3, .int x3)] [] := by
  intro n
  induction n with
  | zero => intro x2 x3 h; cases h
  | succ n ih => intro x2 x3 h; exact w_Mo_parts_4b C ha0 ih h
set_option maxRecDepth 20000 in
theorem w_Mo_parts_0 {X : HX} {ad : Nat → Nat} {I : HI} {J : HJ} {N : HN} {r : Int32} {a0 : Nat} {p1 : Int32} (C : Cx X c_Mo_parts RX11 4 (some .int) rm_Mo_parts) (ha0 : gk Tm nM a0 (0, 11))
    (h : Mo_parts_0 I N a0 p1 = some r) : G Tm X ad nM 0 0 I J N (gE X Tm ad nM (I, J, N, fun _ => some (.int r))) 0 4 [(0, .ref (ad a0)), (1, .int p1)] [] := by
  refine g_iconst (pc := 0) C (0 : Int32) d_Mo_parts_0 (by decide) ?_
  refine g_istore_n (pc := 1) (lv' := [(2, .int (0 : Int32)), (0, .ref (ad a0)), (1, .int p1)]) C d_Mo_parts_1 rfl (by decide) rfl ?_
  refine g_iconst (pc := 2) C (0 : Int32) d_Mo_parts_2 (by decide) ?_
  refine g_istore_n (pc := 3) (lv' := [(3, .int (0 : Int32)), (2, .int (0 : Int32)), (0, .ref (ad a0)), (1, .int p1)]) C d_Mo_parts_3 rfl (by decide) rfl ?_
  refine g_lv [2, 3, 1, 0] rfl ?_
  exact w_Mo_parts_4 C ha0 _ _ _ h
set_option maxRecDepth 20000 in
theorem k_Mo_parts (l : Launch) {I : HI} {J : HJ} {N : HN} {a0 : Nat} {p1 : Int32} {r : Int32} (ha0 : gk Tm nM a0 (0, 11)) (h : Mo_parts I N a0 p1 = some r) : gM l y_Mo_parts c_Mo_parts 4 (some .int) rm_Mo_parts Tm nM I J N (fun ad => [.ref (ad a0), .int p1]) (I, J, N, fun _ => some (.int r)) :=
  g_meth (lv := fun ad => [(0, .ref (ad a0)), (1, .int p1)]) (by decide) (fun _ => Nat.le_of_ble_eq_true rfl) (fun _ => rfl) (fun X ad C => g_lv [0, 1] rfl (w_Mo_parts_0 C ha0 h))
theorem d_Mo_billBy_0 : decode c_Mo_billBy 0 = .ok (.iload_n 2, 1) := by decide +kernel
theorem d_Mo_billBy_1 : decode c_Mo_billBy 1 = .ok (.iconst 3, 1) := by decide +kernel
theorem d_Mo_billBy_2 : decode c_Mo_billBy 2 = .ok (.if_icmp .ge 32, 3) := by decide +kernel
theorem d_Mo_billBy_5 : decode c_Mo_billBy 5 = .ok (.iload_n 2, 1) := by decide +kernel
theorem d_Mo_billBy_6 : decode c_Mo_billBy 6 = .ok (.ifCond .ne 9, 3) := by decide +kernel
theorem d_Mo_billBy_9 : decode c_Mo_billBy 9 = .ok (.iload_n 1, 1) := by decide +kernel
theorem d_Mo_billBy_10 : decode c_Mo_billBy 10 = .ok (.iconst 2, 1) := by decide +kernel
theorem d_Mo_billBy_11 : decode c_Mo_billBy 11 = .ok (.irem, 1) := by decide +kernel
theorem d_Mo_billBy_12 : decode c_Mo_billBy 12 = .ok (.goto 21, 3) := by decide +kernel
theorem d_Mo_billBy_15 : decode c_Mo_billBy 15 = .ok (.iload_n 2, 1) := by decide +kernel
theorem d_Mo_billBy_16 : decode c_Mo_billBy 16 = .ok (.iconst 1, 1) := by decide +kernel
theorem d_Mo_billBy_17 : decode c_Mo_billBy 17 = .ok (.if_icmp .ne 11, 3) := by decide +kernel
theorem d_Mo_billBy_20 : decode c_Mo_billBy 20 = .ok (.aload_n 0, 1) := by decide +kernel
theorem d_Mo_billBy_21 : decode c_Mo_billBy 21 = .ok (.iload_n 1, 1) := by decide +kernel
theorem d_Mo_billBy_22 : decode c_Mo_billBy 22 = .ok (.invokevirtual 298, 3) := by decide +kernel
theorem d_Mo_billBy_25 : decode c_Mo_billBy 25 = .ok (.goto 8, 3) := by decide +kernel
theorem d_Mo_billBy_28 : decode c_Mo_billBy 28 = .ok (.aload_n 0, 1) := by decide +kernel
theorem d_Mo_billBy_29 : decode c_Mo_billBy 29 = .ok (.iload_n 1, 1) := by decide +kernel
theorem d_Mo_billBy_30 : decode c_Mo_billBy 30 = .ok (.invokevirtual 301, 3) := by decide +kernel
theorem d_Mo_billBy_33 : decode c_Mo_billBy 33 = .ok (.ireturn, 1) := by decide +kernel
theorem d_Mo_billBy_34 : decode c_Mo_billBy 34 = .ok (.iconst 0, 1) := by decide +kernel
theorem d_Mo_billBy_35 : decode c_Mo_billBy 35 = .ok (.istore_n 3, 1) := by decide +kernel
theorem d_Mo_billBy_36 : decode c_Mo_billBy 36 = .ok (.iconst 0, 1) := by decide +kernel
theorem d_Mo_billBy_37 : decode c_Mo_billBy 37 = .ok (.istore 4, 2) := by decide +kernel
theorem d_Mo_billBy_39 : decode c_Mo_billBy 39 = .ok (.iload 4, 2) := by decide +kernel
theorem d_Mo_billBy_41 : decode c_Mo_billBy 41 = .ok (.iconst 2, 1) := by decide +kernel
theorem d_Mo_billBy_42 : decode c_Mo_billBy 42 = .ok (.aload_n 0, 1) := by decide +kernel
theorem d_Mo_billBy_43 : decode c_Mo_billBy 43 = .ok (.getfield 159, 3) := by decide +kernel
theorem d_Mo_billBy_46 : decode c_Mo_billBy 46 = .ok (.imul, 1) := by decide +kernel
theorem d_Mo_billBy_47 : decode c_Mo_billBy 47 = .ok (.if_icmp .ge 28, 3) := by decide +kernel
theorem d_Mo_billBy_50 : decode c_Mo_billBy 50 = .ok (.iload_n 3, 1) := by decide +kernel
theorem d_Mo_billBy_51 : decode c_Mo_billBy 51 = .ok (.aload_n 0, 1) := by decide +kernel
theorem d_Mo_billBy_52 : decode c_Mo_billBy 52 = .ok (.iload 4, 2) := by decide +kernel
theorem d_Mo_billBy_54 : decode c_Mo_billBy 54 = .ok (.iload_n 1, 1) := by decide +kernel
theorem d_Mo_billBy_55 : decode c_Mo_billBy 55 = .ok (.iconst 1, 1) := by decide +kernel
theorem d_Mo_billBy_56 : decode c_Mo_billBy 56 = .ok (.invokevirtual 304, 3) := by decide +kernel
theorem d_Mo_billBy_59 : decode c_Mo_billBy 59 = .ok (.ifCond .eq 7, 3) := by decide +kernel
theorem d_Mo_billBy_62 : decode c_Mo_billBy 62 = .ok (.iconst 1, 1) := by decide +kernel
theorem d_Mo_billBy_63 : decode c_Mo_billBy 63 = .ok (.goto 4, 3) := by decide +kernel
theorem d_Mo_billBy_66 : decode c_Mo_billBy 66 = .ok (.iconst 0, 1) := by decide +kernel
theorem d_Mo_billBy_67 : decode c_Mo_billBy 67 = .ok (.iadd, 1) := by decide +kernel
theorem d_Mo_billBy_68 : decode c_Mo_billBy 68 = .ok (.istore_n 3, 1) := by decide +kernel
theorem d_Mo_billBy_69 : decode c_Mo_billBy 69 = .ok (.iinc 4 1, 3) := by decide +kernel
theorem d_Mo_billBy_72 : decode c_Mo_billBy 72 = .ok (.goto (-33), 3) := by decide +kernel
theorem d_Mo_billBy_75 : decode c_Mo_billBy 75 = .ok (.iload_n 3, 1) := by decide +kernel
theorem d_Mo_billBy_76 : decode c_Mo_billBy 76 = .ok (.ireturn, 1) := by decide +kernel
set_option maxRecDepth 20000 in
theorem w_Mo_billBy_67 {X : HX} {ad : Nat → Nat} {I : HI} {J : HJ} {N : HN} {r : Int32} {k39 : Int32 → Int32 → Option (Int32)} {a0 : Nat} {p1 : Int32} {p2 : Int32} {x4 : Int32} {s0 : Int32} {s1 : Int32} (C : Cx X c_Mo_billBy RX11 5 (some .int) rm_Mo_billBy) (ha0 : gk Tm nM a0 (0, 11))
    (hk39 : ∀ (x3 : Int32) (x4 : Int32), k39 x3 x4 = some r → G Tm X ad nM 0 0 I J N (gE X Tm ad nM (I, J, N, fun _ => some (.int r))) 39 5 [(0, .ref (ad a0)), (1, .int p1), (3, .int x3), (4, .int x4)] [])
    (h : Mo_billBy_67 I N a0 p1 p2 k39 x4 s0 s1 = some r) : G Tm X ad nM 0 0 I J N (gE X Tm ad nM (I, J, N, fun _ => some (.int r))) 67 5 [(0, .ref (ad a0)), (1, .int p1), (4, .int x4)] [.int s1, .int s0] := by
  refine g_iadd (pc := 67) C d_Mo_billBy_67 ?_
  obtain ⟨v1, ev1, h⟩ := o_bd h
  refine g_topi ev1 ?_
  refine g_istore_n (pc := 68) (lv' := [(3, .int v1), (0, .ref (ad a0)), (1, .int p1), (4, .int x4)]) C d_Mo_billBy_68 rfl (by decide) rfl ?_
  refine g_iinc (pc := 69) (q := 3) (lv' := [(4, .int (x4 + 1)), (3, .int v1), (0, .ref (ad a0)), (1, .int p1)]) C d_Mo_billBy_69 rfl rfl (by decide) rfl ?_
  refine g_goto (pc := 72) C 39 d_Mo_billBy_72 rfl ?_
  refine g_lv [2, 3, 1, 0] rfl ?_
  exact hk39 _ _ h
set_option maxRecDepth 20000 in
theorem w_Mo_billBy_39b {X : HX} {ad : Nat → Nat} {I : HI} {J : HJ} {N : HN} {r : Int32} {k39 : Int32 → Int32 → Option (Int32)} {a0 : Nat} {p1 : Int32} {p2 : Int32} {x3 : Int32} {x4 : Int32} (C : Cx X c_Mo_billBy RX11 5 (some .int) rm_Mo_billBy) (ha0 : gk Tm nM a0 (0, 11))
    (hk39 : ∀ (x3 : Int32) (x4 : Int32), k39 x3 x4 = some r → G Tm X ad nM 0 0 I J N (gE X Tm ad nM (I, J, N, fun _ => some (.int r))) 39 5 [(0, .ref (ad a0)), (1, .int p1), (3, .int x3), (4, .int x4)] [])
    (h : Mo_billBy_39b I N a0 p1 p2 k39 x3 x4 = some r) : G Tm X ad nM 0 0 I J N (gE X Tm ad nM (I, J, N, fun _ => some (.int r))) 39 5 [(0, .ref (ad a0)), (1, .int p1), (3, .int x3), (4, .int x4)] [] := by
  refine g_iload (pc := 39) C d_Mo_billBy_39 3 rfl ?_
  refine g_iconst (pc := 41) C (2 : Int32) d_Mo_billBy_41 (by decide) ?_
  refine g_aload_n (pc := 42) C d_Mo_billBy_42 rfl 0 rfl ?_
  refine g_get (pc := 43) (k := 6) (v := .int (I a0 6)) C gcX11 inX11 (by decide) fl_Mo_159 ha0 rfl d_Mo_billBy_43 ?_
  refine g_imul (pc := 46) C d_Mo_billBy_46 ?_
  refine g_icmp_ge (pc := 47) C 75 d_Mo_billBy_47 rfl (fun e1 => ?_) (fun e1 => ?_)
  · have h := o_pos e1 h
    refine g_iload_n (pc := 75) C d_Mo_billBy_75 rfl 2 rfl ?_
    obtain rfl := o_ret h
    exact g_iret (pc := 76) C d_Mo_billBy_76
  · have h := o_neg e1 h
    refine g_iload_n (pc := 50) C d_Mo_billBy_50 rfl 2 rfl ?_
    refine g_aload_n (pc := 51) C d_Mo_billBy_51 rfl 0 rfl ?_
    refine g_iload (pc := 52) C d_Mo_billBy_52 3 rfl ?_
    refine g_iload_n (pc := 54) C d_Mo_billBy_54 rfl 1 rfl ?_
    refine g_iconst (pc := 55) C (1 : Int32) d_Mo_billBy_55 (by decide) ?_
    obtain ⟨r2, hc3, h⟩ := o_bn1 h
    refine g_V (pc := 56) (rest := [.int x3]) C (k_Mo_isLike (xl X) ha0 hc3) sm_Mo_isLike ml_Mo_304 im_Mo_isLike se_Mo_isLike gcX11 rfl ha0 ⟨rfl, rfl, Nat.le_of_ble_eq_true rfl, Nat.le_of_ble_eq_true rfl⟩ ⟨Nat.zero_le _, Nat.zero_le _⟩ rfl rfl (Nat.le_of_ble_eq_true rfl) d_Mo_billBy_56 [.int r2, .int x3] rfl ?_
    refine g_if_eq (pc := 59) C 66 d_Mo_billBy_59 rfl (fun e4 => ?_) (fun e4 => ?_)
    · have h := o_pos e4 h
      refine g_iconst (pc := 66) C (0 : Int32) d_Mo_billBy_66 (by decide) ?_
      refine g_lv [0, 1, 3] rfl ?_
      exact w_Mo_billBy_67 C ha0 hk39 h
    · have h := o_neg e4 h
      refine g_iconst (pc := 62) C (1 : Int32) d_Mo_billBy_62 (by decide) ?_
      refine g_goto (pc := 63) C 67 d_Mo_billBy_63 rfl ?_
      refine g_lv [0, 1, 3] rfl ?_
      exact w_Mo_billBy_67 C ha0 hk39 h
set_option maxRecDepth 20000 in
theorem w_Mo_billBy_39 {X : HX} {ad : Nat → Nat} {I : HI} {J : HJ} {N : HN} {r : Int32} {a0 : Nat} {p1 : Int32} {p2 : Int32} (C : Cx X c_Mo_billBy RX11 5 (some .int) rm_Mo_billBy) (ha0 : gk Tm nM a0 (0, 11)) : ∀ (n : Nat) (x3 : Int32) (x4 : Int32), Mo_billBy_39 I N a0 p1 p2 n x3 x4 = some r → G Tm X ad nM 0 0 I J N (gE X Tm ad nM (I, J, N, fun _ => some (.int r))) 39 5 [(0, .ref (ad a0)), (1, .int p1), (3, .int x3), (4, .int x4)] [] := by
  intro n
  induction n with
  | zero => intro x3 x4 h; cases h
  | succ n ih => intro x3 x4 h; exact w_Mo_billBy_39b C ha0 ih h
set_option maxRecDepth 20000 in
theorem w_Mo_billBy_0 {X : HX} {ad : Nat → Nat} {I : HI} {J : HJ} {N : HN} {r : Int32} {a0 : Nat} {p1 : Int32} {p2 : Int32} (C : Cx X c_Mo_billBy RX11 5 (some .int) rm_Mo_billBy) (ha0 : gk Tm nM a0 (0, 11))
    (h : Mo_billBy_0 I N a0 p1 p2 = some r) : G Tm X ad nM 0 0 I J N (gE X Tm ad nM (I, J, N, fun _ => some (.int r))) 0 5 [(0, .ref (ad a0)), (1, .int p1), (2, .int p2)] [] := by
  refine g_iload_n (pc := 0) C d_Mo_billBy_0 rfl 2 rfl ?_
  refine g_iconst (pc := 1) C (3 : Int32) d_Mo_billBy_1 (by decide) ?_
  refine g_icmp_ge (pc := 2) C 34 d_Mo_billBy_2 rfl (fun e1 => ?_) (fun e1 => ?_)
  · have h := o_pos e1 h
    refine g_iconst (pc := 34) C (0 : Int32) d_Mo_billBy_34 (by decide) ?_
    refine g_istore_n (pc := 35) (lv' := [(3, .int (0 : Int32)), (0, .ref (ad a0)), (1, .int p1), (2, .int p2)]) C d_Mo_billBy_35 rfl (by decide) rfl ?_
    refine g_iconst (pc := 36) C (0 : Int32) d_Mo_billBy_36 (by decide) ?_
    refine g_istore (pc := 37) (lv' := [(4, .int (0 : Int32)), (3, .int (0 : Int32)), (0, .ref (ad a0)), (1, .int p1), (2, .int p2)]) C d_Mo_billBy_37 (by decide) rfl ?_
    refine g_lv [2, 3, 1, 0] rfl ?_
    exact w_Mo_billBy_39 C ha0 _ _ _ h
  · have h := o_neg e1 h
    refine g_iload_n (pc := 5) C d_Mo_billBy_5 rfl 2 rfl ?_
    refine g_if_ne (pc := 6) C 15 d_Mo_billBy_6 rfl (fun e2 => ?_) (fun e2 => ?_)
    · have h := o_neg e2 h
      refine g_iload_n (pc := 15) C d_Mo_billBy_15 rfl 2 rfl ?_
      refine g_iconst (pc := 16) C (1 : Int32) d_Mo_billBy_16 (by decide) ?_
      refine g_icmp_ne (pc := 17) C 28 d_Mo_billBy_17 rfl (fun e3 => ?_) (fun e3 => ?_)
      · have h := o_neg e3 h
        refine g_aload_n (pc := 28) C d_Mo_billBy_28 rfl 0 rfl ?_
        refine g_iload_n (pc := 29) C d_Mo_billBy_29 rfl 1 rfl ?_
        obtain ⟨r4, hc5, h⟩ := o_bn1 h
        refine g_V (pc := 30) (rest := []) C (k_Mo_partDown (xl X) ha0 hc5) sm_Mo_partDown ml_Mo_301 im_Mo_partDown se_Mo_partDown gcX11 rfl ha0 ⟨rfl, rfl, Nat.le_of_ble_eq_true rfl, Nat.le_of_ble_eq_true rfl⟩ ⟨Nat.zero_le _, Nat.zero_le _⟩ rfl rfl (Nat.le_of_ble_eq_true rfl) d_Mo_billBy_30 [.int r4] rfl ?_
        obtain rfl := o_ret h
        exact g_iret (pc := 33) C d_Mo_billBy_33
      · have h := o_pos e3 h
        refine g_aload_n (pc := 20) C d_Mo_billBy_20 rfl 0 rfl ?_
        refine g_iload_n (pc := 21) C d_Mo_billBy_21 rfl 1 rfl ?_
        obtain ⟨r6, hc7, h⟩ := o_bn1 h
        refine g_V (pc := 22) (rest := []) C (k_Mo_partUp (xl X) ha0 hc7) sm_Mo_partUp ml_Mo_298 im_Mo_partUp se_Mo_partUp gcX11 rfl ha0 ⟨rfl, rfl, Nat.le_of_ble_eq_true rfl, Nat.le_of_ble_eq_true rfl⟩ ⟨Nat.zero_le _, Nat.zero_le _⟩ rfl rfl (Nat.le_of_ble_eq_true rfl) d_Mo_billBy_22 [.int r6] rfl ?_
        refine g_goto (pc := 25) C 33 d_Mo_billBy_25 rfl ?_
        obtain rfl := o_ret h
        exact g_iret (pc := 33) C d_Mo_billBy_33
    · have h := o_pos e2 h
      refine g_iload_n (pc := 9) C d_Mo_billBy_9 rfl 1 rfl ?_
      refine g_iconst (pc := 10) C (2 : Int32) d_Mo_billBy_10 (by decide) ?_
      refine g_irem (pc := 11) C d_Mo_billBy_11 (by decide) ?_
      refine g_goto (pc := 12) C 33 d_Mo_billBy_12 rfl ?_
      obtain rfl := o_ret h
      exact g_iret (pc := 33) C d_Mo_billBy_33
set_option maxRecDepth 20000 in
theorem k_Mo_billBy (l : Launch) {I : HI} {J : HJ} {N : HN} {a0 : Nat} {p1 : Int32} {p2 : Int32} {r : Int32} (ha0 : gk Tm nM a0 (0, 11)) (h : Mo_billBy I N a0 p1 p2 = some r) : gM l y_Mo_billBy c_Mo_billBy 5 (some .int) rm_Mo_billBy Tm nM I J N (fun ad => [.ref (ad a0), .int p1, .int p2]) (I, J, N, fun _ => some (.int r)) :=
  g_meth (lv := fun ad => [(0, .ref (ad a0)), (1, .int p1), (2, .int p2)]) (by decide) (fun _ => Nat.le_of_ble_eq_true rfl) (fun _ => rfl) (fun X ad C => g_lv [0, 1, 2] rfl (w_Mo_billBy_0 C ha0 h))
theorem d_Mo_nthPart_0 : decode c_Mo_nthPart 0 = .ok (.iconst 0, 1) := by decide +kernel
theorem d_Mo_nthPart_1 : decode c_Mo_nthPart 1 = .ok (.istore_n 2, 1) := by decide +kernel
theorem d_Mo_nthPart_2 : decode c_Mo_nthPart 2 = .ok (.iconst 0, 1) := by decide +kernel
theorem d_Mo_nthPart_3 : decode c_Mo_nthPart 3 = .ok (.istore_n 3, 1) := by decide +kernel
theorem d_Mo_nthPart_4 : decode c_Mo_nthPart 4 = .ok (.iload_n 3, 1) := by decide +kernel
theorem d_Mo_nthPart_5 : decode c_Mo_nthPart 5 = .ok (.iconst 2, 1) := by decide +kernel
theorem d_Mo_nthPart_6 : decode c_Mo_nthPart 6 = .ok (.aload_n 0, 1) := by decide +kernel
theorem d_Mo_nthPart_7 : decode c_Mo_nthPart 7 = .ok (.getfield 159, 3) := by decide +kernel
theorem d_Mo_nthPart_10 : decode c_Mo_nthPart 10 = .ok (.imul, 1) := by decide +kernel
theorem d_Mo_nthPart_11 : decode c_Mo_nthPart 11 = .ok (.if_icmp .ge 28, 3) := by decide +kernel
theorem d_Mo_nthPart_14 : decode c_Mo_nthPart 14 = .ok (.aload_n 0, 1) := by decide +kernel
theorem d_Mo_nthPart_15 : decode c_Mo_nthPart 15 = .ok (.iload_n 3, 1) := by decide +kernel
theorem d_Mo_nthPart_16 : decode c_Mo_nthPart 16 = .ok (.iconst 1, 1) := by decide +kernel
theorem d_Mo_nthPart_17 : decode c_Mo_nthPart 17 = .ok (.invokevirtual 308, 3) := by decide +kernel
theorem d_Mo_nthPart_20 : decode c_Mo_nthPart 20 = .ok (.ifCond .eq 13, 3) := by decide +kernel
theorem d_Mo_nthPart_23 : decode c_Mo_nthPart 23 = .ok (.iload_n 2, 1) := by decide +kernel
theorem d_Mo_nthPart_24 : decode c_Mo_nthPart 24 = .ok (.iload_n 1, 1) := by decide +kernel
theorem d_Mo_nthPart_25 : decode c_Mo_nthPart 25 = .ok (.if_icmp .ne 5, 3) := by decide +kernel
theorem d_Mo_nthPart_28 : decode c_Mo_nthPart 28 = .ok (.iload_n 3, 1) := by decide +kernel
theorem d_Mo_nthPart_29 : decode c_Mo_nthPart 29 = .ok (.ireturn, 1) := by decide +kernel
theorem d_Mo_nthPart_30 : decode c_Mo_nthPart 30 = .ok (.iinc 2 1, 3) := by decide +kernel
theorem d_Mo_nthPart_33 : decode c_Mo_nthPart 33 = .ok (.iinc 3 1, 3) := by decide +kernel
theorem d_Mo_nthPart_36 : decode c_Mo_nthPart 36 = .ok (.goto (-32), 3) := by decide +kernel
theorem d_Mo_nthPart_39 : decode c_Mo_nthPart 39 = .ok (.iconst (-1), 1) := by decide +kernel
theorem d_Mo_nthPart_40 : decode c_Mo_nthPart 40 = .ok (.ireturn, 1) := by decide +kernel
set_option maxRecDepth 20000 in
theorem w_Mo_nthPart_33 {X : HX} {ad : Nat → Nat} {I : HI} {J : HJ} {N : HN} {r : Int32} {k4 : Int32 → Int32 → Option (Int32)} {a0 : Nat} {p1 : Int32} {x2 : Int32} {x3 : Int32} (C : Cx X c_Mo_nthPart RX11 4 (some .int) rm_Mo_nthPart) (ha0 : gk Tm nM a0 (0, 11))
    (hk4 : ∀ (x2 : Int32) (x3 : Int32), k4 x2 x3 = some r → G Tm X ad nM 0 0 I J N (gE X Tm ad nM (I, J, N, fun _ => some (.int r))) 4 4 [(0, .ref (ad a0)), (1, .int p1), (2, .int x2), (3, .int x3)] [])
    (h : Mo_nthPart_33 I N a0 p1 k4 x2 x3 = some r) : G Tm X ad nM 0 0 I J N (gE X Tm ad nM (I, J, N, fun _ => some (.int r))) 33 4 [(0, .ref (ad a0)), (1, .int p1), (2, .int x2), (3, .int x3)] [] := by
  refine g_iinc (pc := 33) (q := 3) (lv' := [(3, .int (x3 + 1)), (0, .ref (ad a0)), (1, .int p1), (2, .int x2)]) C d_Mo_nthPart_33 rfl rfl (by decide) rfl ?_
  refine g_goto (pc := 36) C 4 d_Mo_nthPart_36 rfl ?_
  refine g_lv [1, 2, 3, 0] rfl ?_
  exact hk4 _ _ h
set_option maxRecDepth 20000 in
theorem w_Mo_nthPart_4b {X : HX} {ad : Nat → Nat} {I : HI} {J : HJ} {N : HN} {r : Int32} {k4 : Int32 → Int32 → Option (Int32)} {a0 : Nat} {p1 : Int32} {x2 : Int32} {x3 : Int32} (C : Cx X c_Mo_nthPart RX11 4 (some .int) rm_Mo_nthPart) (ha0 : gk Tm nM a0 (0, 11))
    (hk4 : ∀ (x2 : Int32) (x3 : Int32), k4 x2 x3 = some r → G Tm X ad nM 0 0 I J N (gE X Tm ad nM (I, J, N, fun _ => some (.int r))) 4 4 [(0, .ref (ad a0)), (1, .int p1), (2, .int x2), (3, .int x3)] [])
    (h : Mo_nthPart_4b I N a0 p1 k4 x2 x3 = some r) : G Tm X ad nM 0 0 I J N (gE X Tm ad nM (I, J, N, fun _ => some (.int r))) 4 4 [(0, .ref (ad a0)), (1, .int p1), (2, .int x2), (3, .int x3)] [] := by
  refine g_iload_n (pc := 4) C d_Mo_nthPart_4 rfl 3 rfl ?_
  refine g_iconst (pc := 5) C (2 : Int32) d_Mo_nthPart_5 (by decide) ?_
  refine g_aload_n (pc := 6) C d_Mo_nthPart_6 rfl 0 rfl ?_
  refine g_get (pc := 7) (k := 6) (v := .int (I a0 6)) C gcX11 inX11 (by decide) fl_Mo_159 ha0 rfl d_Mo_nthPart_7 ?_
  refine g_imul (pc := 10) C d_Mo_nthPart_10 ?_
  refine g_icmp_ge (pc := 11) C 39 d_Mo_nthPart_11 rfl (fun e1 => ?_) (fun e1 => ?_)
  · have h := o_pos e1 h
    refine g_iconst (pc := 39) C (-1 : Int32) d_Mo_nthPart_39 (by decide) ?_
    obtain rfl := o_ret h
    exact g_iret (pc := 40) C d_Mo_nthPart_40
  · have h := o_neg e1 h
    refine g_aload_n (pc := 14) C d_Mo_nthPart_14 rfl 0 rfl ?_
    refine g_iload_n (pc := 15) C d_Mo_nthPart_15 rfl 3 rfl ?_
    refine g_iconst (pc := 16) C (1 : Int32) d_Mo_nthPart_16 (by decide) ?_
    obtain ⟨r2, hc3, h⟩ := o_bn1 h
    refine g_V (pc := 17) (rest := []) C (k_Mo_isFirst (xl X) ha0 hc3) sm_Mo_isFirst ml_Mo_308 im_Mo_isFirst se_Mo_isFirst gcX11 rfl ha0 ⟨rfl, rfl, Nat.le_of_ble_eq_true rfl, Nat.le_of_ble_eq_true rfl⟩ ⟨Nat.zero_le _, Nat.zero_le _⟩ rfl rfl (Nat.le_of_ble_eq_true rfl) d_Mo_nthPart_17 [.int r2] rfl ?_
    refine g_if_eq (pc := 20) C 33 d_Mo_nthPart_20 rfl (fun e4 => ?_) (fun e4 => ?_)
    · have h := o_pos e4 h
      refine g_lv [0, 1, 2, 3] rfl ?_
      exact w_Mo_nthPart_33 C ha0 hk4 h
    · have h := o_neg e4 h
      refine g_iload_n (pc := 23) C d_Mo_nthPart_23 rfl 2 rfl ?_
      refine g_iload_n (pc := 24) C d_Mo_nthPart_24 rfl 1 rfl ?_
      refine g_icmp_ne (pc := 25) C 30 d_Mo_nthPart_25 rfl (fun e5 => ?_) (fun e5 => ?_)
      · have h := o_neg e5 h
        refine g_iinc (pc := 30) (q := 2) (lv' := [(2, .int (x2 + 1)), (0, .ref (ad a0)), (1, .int p1), (3, .int x3)]) C d_Mo_nthPart_30 rfl rfl (by decide) rfl ?_
        refine g_lv [1, 2, 0, 3] rfl ?_
        exact w_Mo_nthPart_33 C ha0 hk4 h
      · have h := o_pos e5 h
        refine g_iload_n (pc := 28) C d_Mo_nthPart_28 rfl 3 rfl ?_
        obtain rfl := o_ret h
        exact g_iret (pc := 29) C d_Mo_nthPart_29
set_option maxRecDepth 20000 in
theorem w_Mo_nthPart_4 {X : HX} {ad : Nat → Nat} {I : HI} {J : HJ} {N : HN} {r : Int32} {a0 : Nat} {p1 : Int32} (C : Cx X c_Mo_nthPart RX11 4 (some .int) rm_Mo_nthPart) (ha0 : gk Tm nM a0 (0, 11)) : ∀ (n : Nat) (x2 : Int32) (x3 : Int32), Mo_nthPart_4 I N a0 p1 n x2 x3 = some r → G Tm X ad nM 0 0 I J N (gE X Tm ad nM (I, J, N, fun _ => some (.int r))) 4 4 [(0, .ref (ad a0)), (1, .int p1), (2, .int x2), (3, .int x3)] [] := by
  intro n
  induction n with
  | zero => intro x2 x3 h; cases h
  | succ n ih => intro x2 x3 h; exact w_Mo_nthPart_4b C ha0 ih h
set_option maxRecDepth 20000 in
theorem w_Mo_nthPart_0 {X : HX} {ad : Nat → Nat} {I : HI} {J : HJ} {N : HN} {r : Int32} {a0 : Nat} {p1 : Int32} (C : Cx X c_Mo_nthPart RX11 4 (some .int) rm_Mo_nthPart) (ha0 : gk Tm nM a0 (0, 11))
    (h : Mo_nthPart_0 I N a0 p1 = some r) : G Tm X ad nM 0 0 I J N (gE X Tm ad nM (I, J, N, fun _ => some (.int r))) 0 4 [(0, .ref (ad a0)), (1, .int p1)] [] := by
  refine g_iconst (pc := 0) C (0 : Int32) d_Mo_nthPart_0 (by decide) ?_
  refine g_istore_n (pc := 1) (lv' := [(2, .int (0 : Int32)), (0, .ref (ad a0)), (1, .int p1)]) C d_Mo_nthPart_1 rfl (by decide) rfl ?_
  refine g_iconst (pc := 2) C (0 : Int32) d_Mo_nthPart_2 (by decide) ?_
  refine g_istore_n (pc := 3) (lv' := [(3, .int (0 : Int32)), (2, .int (0 : Int32)), (0, .ref (ad a0)), (1, .int p1)]) C d_Mo_nthPart_3 rfl (by decide) rfl ?_
  refine g_lv [2, 3, 1, 0] rfl ?_
  exact w_Mo_nthPart_4 C ha0 _ _ _ h
set_option maxRecDepth 20000 in
theorem k_Mo_nthPart (l : Launch) {I : HI} {J : HJ} {N : HN} {a0 : Nat} {p1 : Int32} {r : Int32} (ha0 : gk Tm nM a0 (0, 11)) (h : Mo_nthPart I N a0 p1 = some r) : gM l y_Mo_nthPart c_Mo_nthPart 4 (some .int) rm_Mo_nthPart Tm nM I J N (fun ad => [.ref (ad a0), .int p1]) (I, J, N, fun _ => some (.int r)) :=
  g_meth (lv := fun ad => [(0, .ref (ad a0)), (1, .int p1)]) (by decide) (fun _ => Nat.le_of_ble_eq_true rfl) (fun _ => rfl) (fun X ad C => g_lv [0, 1] rfl (w_Mo_nthPart_0 C ha0 h))
theorem d_Mo_bill_0 : decode c_Mo_bill 0 = .ok (.iload_n 1, 1) := by decide +kernel
theorem d_Mo_bill_1 : decode c_Mo_bill 1 = .ok (.i2l, 1) := by decide +kernel
theorem d_Mo_bill_2 : decode c_Mo_bill 2 = .ok (.lconst 0, 1) := by decide +kernel
theorem d_Mo_bill_3 : decode c_Mo_bill 3 = .ok (.aload_n 0, 1) := by decide +kernel
theorem d_Mo_bill_4 : decode c_Mo_bill 4 = .ok (.iconst 1, 1) := by decide +kernel
theorem d_Mo_bill_5 : decode c_Mo_bill 5 = .ok (.invokevirtual 312, 3) := by decide +kernel
theorem d_Mo_bill_8 : decode c_Mo_bill 8 = .ok (.iconst 1, 1) := by decide +kernel
theorem d_Mo_bill_9 : decode c_Mo_bill 9 = .ok (.isub, 1) := by decide +kernel
theorem d_Mo_bill_10 : decode c_Mo_bill 10 = .ok (.i2l, 1) := by decide +kernel
theorem d_Mo_bill_11 : decode c_Mo_bill 11 = .ok (.invokestatic 83, 3) := by decide +kernel
theorem d_Mo_bill_14 : decode c_Mo_bill 14 = .ok (.ifCond .eq 28, 3) := by decide +kernel
theorem d_Mo_bill_17 : decode c_Mo_bill 17 = .ok (.iload_n 2, 1) := by decide +kernel
theorem d_Mo_bill_18 : decode c_Mo_bill 18 = .ok (.i2l, 1) := by decide +kernel
theorem d_Mo_bill_19 : decode c_Mo_bill 19 = .ok (.lconst 0, 1) := by decide +kernel
theorem d_Mo_bill_20 : decode c_Mo_bill 20 = .ok (.ldc2_w 268, 3) := by decide +kernel
theorem d_Mo_bill_23 : decode c_Mo_bill 23 = .ok (.invokestatic 83, 3) := by decide +kernel
theorem d_Mo_bill_26 : decode c_Mo_bill 26 = .ok (.ifCond .eq 16, 3) := by decide +kernel
theorem d_Mo_bill_29 : decode c_Mo_bill 29 = .ok (.aload_n 0, 1) := by decide +kernel
theorem d_Mo_bill_30 : decode c_Mo_bill 30 = .ok (.aload_n 0, 1) := by decide +kernel
theorem d_Mo_bill_31 : decode c_Mo_bill 31 = .ok (.iload_n 1, 1) := by decide +kernel
theorem d_Mo_bill_32 : decode c_Mo_bill 32 = .ok (.invokevirtual 316, 3) := by decide +kernel
theorem d_Mo_bill_35 : decode c_Mo_bill 35 = .ok (.iload_n 2, 1) := by decide +kernel
theorem d_Mo_bill_36 : decode c_Mo_bill 36 = .ok (.invokevirtual 319, 3) := by decide +kernel
theorem d_Mo_bill_39 : decode c_Mo_bill 39 = .ok (.goto 5, 3) := by decide +kernel
theorem d_Mo_bill_42 : decode c_Mo_bill 42 = .ok (.bipush (-2), 2) := by decide +kernel
theorem d_Mo_bill_44 : decode c_Mo_bill 44 = .ok (.ireturn, 1) := by decide +kernel
set_option maxRecDepth 20000 in
theorem w_Mo_bill_0 {X : HX} {ad : Nat → Nat} {I : HI} {J : HJ} {N : HN} {r : Int32} {a0 : Nat} {p1 : Int32} {p2 : Int32} (C : Cx X c_Mo_bill RX11 3 (some .int) rm_Mo_bill) (ha0 : gk Tm nM a0 (0, 11))
    (h : Mo_bill_0 I N a0 p1 p2 = some r) : G Tm X ad nM 0 0 I J N (gE X Tm ad nM (I, J, N, fun _ => some (.int r))) 0 3 [(0, .ref (ad a0)), (1, .int p1), (2, .int p2)] [] := by
  refine g_iload_n (pc := 0) C d_Mo_bill_0 rfl 1 rfl ?_
  refine g_i2l (pc := 1) C d_Mo_bill_1 ?_
  refine g_lconst (pc := 2) C (0 : Int64) d_Mo_bill_2 (by decide) ?_
  refine g_aload_n (pc := 3) C d_Mo_bill_3 rfl 0 rfl ?_
  refine g_iconst (pc := 4) C (1 : Int32) d_Mo_bill_4 (by decide) ?_
  obtain ⟨r1, hc2, h⟩ := o_bn1 h
  refine g_V (pc := 5) (rest := [.long (0 : Int64), .long p1.toInt64]) C (k_Mo_parts (xl X) ha0 hc2) sm_Mo_parts ml_Mo_312 im_Mo_parts se_Mo_parts gcX11 rfl ha0 ⟨rfl, rfl, Nat.le_of_ble_eq_true rfl, Nat.le_of_ble_eq_true rfl⟩ ⟨Nat.zero_le _, Nat.zero_le _⟩ rfl rfl (Nat.le_of_ble_eq_true rfl) d_Mo_bill_5 [.int r1, .long (0 : Int64), .long p1.toInt64] rfl ?_
  refine g_iconst (pc := 8) C (1 : Int32) d_Mo_bill_8 (by decide) ?_
  refine g_isub (pc := 9) C d_Mo_bill_9 ?_
  refine g_i2l (pc := 10) C d_Mo_bill_10 ?_
  obtain ⟨r3, hc4, h⟩ := o_bn1 h
  refine g_S (pc := 11) (rest := []) C (k_Mo_in (xl X)  hc4) sm_Mo_in ml_Mo_83 st_Mo_in ⟨rfl, rfl, Nat.le_of_ble_eq_true rfl, Nat.le_of_ble_eq_true rfl⟩ ⟨Nat.zero_le _, Nat.zero_le _⟩ rfl rfl (Nat.le_of_ble_eq_true rfl) d_Mo_bill_11 [.int r3] rfl ?_
  refine g_if_eq (pc := 14) C 42 d_Mo_bill_14 rfl (fun e5 => ?_) (fun e5 => ?_)
  · have h := o_pos e5 h
    refine g_bipush (pc := 42) C (-2 : Int32) d_Mo_bill_42 (by decide) ?_
    obtain rfl := o_ret h
    exact g_iret (pc := 44) C d_Mo_bill_44
  · have h := o_neg e5 h
    refine g_iload_n (pc := 17) C d_Mo_bill_17 rfl 2 rfl ?_
    refine g_i2l (pc := 18) C d_Mo_bill_18 ?_
    refine g_lconst (pc := 19) C (0 : Int64) d_Mo_bill_19 (by decide) ?_
    refine g_ldc2 (pc := 20) C kc_Mo_268 d_Mo_bill_20 ?_
    obtain ⟨r6, hc7, h⟩ := o_bn1 h
    refine g_S (pc := 23) (rest := []) C (k_Mo_in (xl X)  hc7) sm_Mo_in ml_Mo_83 st_Mo_in ⟨rfl, rfl, Nat.le_of_ble_eq_true rfl, Nat.le_of_ble_eq_true rfl⟩ ⟨Nat.zero_le _, Nat.zero_le _⟩ rfl rfl (Nat.le_of_ble_eq_true rfl) d_Mo_bill_23 [.int r6] rfl ?_
    refine g_if_eq (pc := 26) C 42 d_Mo_bill_26 rfl (fun e8 => ?_) (fun e8 => ?_)
    · have h := o_pos e8 h
      refine g_bipush (pc := 42) C (-2 : Int32) d_Mo_bill_42 (by decide) ?_
      obtain rfl := o_ret h
      exact g_iret (pc := 44) C d_Mo_bill_44
    · have h := o_neg e8 h
      refine g_aload_n (pc := 29) C d_Mo_bill_29 rfl 0 rfl ?_
      refine g_aload_n (pc := 30) C d_Mo_bill_30 rfl 0 rfl ?_
      refine g_iload_n (pc := 31) C d_Mo_bill_31 rfl 1 rfl ?_
      obtain ⟨r9, hc10, h⟩ := o_bn1 h
      refine g_V (pc := 32) (rest := [.ref (ad a0)]) C (k_Mo_nthPart (xl X) ha0 hc10) sm_Mo_nthPart ml_Mo_316 im_Mo_nthPart se_Mo_nthPart gcX11 rfl ha0 ⟨rfl, rfl, Nat.le_of_ble_eq_true rfl, Nat.le_of_ble_eq_true rfl⟩ ⟨Nat.zero_le _, Nat.zero_le _⟩ rfl rfl (Nat.le_of_ble_eq_true rfl) d_Mo_bill_32 [.int r9, .ref (ad a0)] rfl ?_
      refine g_iload_n (pc := 35) C d_Mo_bill_35 rfl 2 rfl ?_
      obtain ⟨r11, hc12, h⟩ := o_bn1 h
      refine g_V (pc := 36) (rest := []) C (k_Mo_billBy (xl X) ha0 hc12) sm_Mo_billBy ml_Mo_319 im_Mo_billBy se_Mo_billBy gcX11 rfl ha0 ⟨rfl, rfl, Nat.le_of_ble_eq_true rfl, Nat.le_of_ble_eq_true rfl⟩ ⟨Nat.zero_le _, Nat.zero_le _⟩ rfl rfl (Nat.le_of_ble_eq_true rfl) d_Mo_bill_36 [.int r11] rfl ?_
      refine g_goto (pc := 39) C 44 d_Mo_bill_39 rfl ?_
      obtain rfl := o_ret h
      exact g_iret (pc := 44) C d_Mo_bill_44
set_option maxRecDepth 20000 in
theorem k_Mo_bill (l : Launch) {I : HI} {J : HJ} {N : HN} {a0 : Nat} {p1 : Int32} {p2 : Int32} {r : Int32} (ha0 : gk Tm nM a0 (0, 11)) (h : Mo_bill I N a0 p1 p2 = some r) : gM l y_Mo_bill c_Mo_bill 3 (some .int) rm_Mo_bill Tm nM I J N (fun ad => [.ref (ad a0), .int p1, .int p2]) (I, J, N, fun _ => some (.int r)) :=
  g_meth (lv := fun ad => [(0, .ref (ad a0)), (1, .int p1), (2, .int p2)]) (by decide) (fun _ => Nat.le_of_ble_eq_true rfl) (fun _ => rfl) (fun X ad C => g_lv [0, 1, 2] rfl (w_Mo_bill_0 C ha0 h))
theorem d_Mo_values_0 : decode c_Mo_values 0 = .ok (.aload_n 0, 1) := by decide +kernel
theorem d_Mo_values_1 : decode c_Mo_values 1 = .ok (.iconst 0, 1) := by decide +kernel
theorem d_Mo_values_2 : decode c_Mo_values 2 = .ok (.invokevirtual 312, 3) := by decide +kernel
theorem d_Mo_values_5 : decode c_Mo_values 5 = .ok (.ireturn, 1) := by decide +kernel
set_option maxRecDepth 20000 in
theorem w_Mo_values_0 {X : HX} {ad : Nat → Nat} {I : HI} {J : HJ} {N : HN} {r : Int32} {a0 : Nat} (C : Cx X c_Mo_values RX11 1 (some .int) rm_Mo_values) (ha0 : gk Tm nM a0 (0, 11))
    (h : Mo_values_0 I N a0 = some r) : G Tm X ad nM 0 0 I J N (gE X Tm ad nM (I, J, N, fun _ => some (.int r))) 0 1 [(0, .ref (ad a0))] [] := by
  refine g_aload_n (pc := 0) C d_Mo_values_0 rfl 0 rfl ?_
  refine g_iconst (pc := 1) C (0 : Int32) d_Mo_values_1 (by decide) ?_
  obtain ⟨r1, hc2, h⟩ := o_bn1 h
  refine g_V (pc := 2) (rest := []) C (k_Mo_parts (xl X) ha0 hc2) sm_Mo_parts ml_Mo_312 im_Mo_parts se_Mo_parts gcX11 rfl ha0 ⟨rfl, rfl, Nat.le_of_ble_eq_true rfl, Nat.le_of_ble_eq_true rfl⟩ ⟨Nat.zero_le _, Nat.zero_le _⟩ rfl rfl (Nat.le_of_ble_eq_true rfl) d_Mo_values_2 [.int r1] rfl ?_
  obtain rfl := o_ret h
  exact g_iret (pc := 5) C d_Mo_values_5
set_option maxRecDepth 20000 in
theorem k_Mo_values (l : Launch) {I : HI} {J : HJ} {N : HN} {a0 : Nat} {r : Int32} (ha0 : gk Tm nM a0 (0, 11)) (h : Mo_values I N a0 = some r) : gM l y_Mo_values c_Mo_values 1 (some .int) rm_Mo_values Tm nM I J N (fun ad => [.ref (ad a0)]) (I, J, N, fun _ => some (.int r)) :=
  g_meth (lv := fun ad => [(0, .ref (ad a0))]) (by decide) (fun _ => Nat.le_of_ble_eq_true rfl) (fun _ => rfl) (fun X ad C => g_lv [0] rfl (w_Mo_values_0 C ha0 h))
theorem d_Mo_wishAsPair_0 : decode c_Mo_wishAsPair 0 = .ok (.iconst 0, 1) := by decide +kernel
theorem d_Mo_wishAsPair_1 : decode c_Mo_wishAsPair 1 = .ok (.istore_n 1, 1) := by decide +kernel
theorem d_Mo_wishAsPair_2 : decode c_Mo_wishAsPair 2 = .ok (.iload_n 1, 1) := by decide +kernel
theorem d_Mo_wishAsPair_3 : decode c_Mo_wishAsPair 3 = .ok (.bipush 14, 2) := by decide +kernel
theorem d_Mo_wishAsPair_5 : decode c_Mo_wishAsPair 5 = .ok (.if_icmp .ge 58, 3) := by decide +kernel
theorem d_Mo_wishAsPair_8 : decode c_Mo_wishAsPair 8 = .ok (.aload_n 0, 1) := by decide +kernel
theorem d_Mo_wishAsPair_9 : decode c_Mo_wishAsPair 9 = .ok (.getfield 56, 3) := by decide +kernel
theorem d_Mo_wishAsPair_12 : decode c_Mo_wishAsPair 12 = .ok (.iload_n 1, 1) := by decide +kernel
theorem d_Mo_wishAsPair_13 : decode c_Mo_wishAsPair 13 = .ok (.iload_n 1, 1) := by decide +kernel
theorem d_Mo_wishAsPair_14 : decode c_Mo_wishAsPair 14 = .ok (.bipush 7, 2) := by decide +kernel
theorem d_Mo_wishAsPair_16 : decode c_Mo_wishAsPair 16 = .ok (.if_icmp .ge 13, 3) := by decide +kernel
theorem d_Mo_wishAsPair_19 : decode c_Mo_wishAsPair 19 = .ok (.aload_n 0, 1) := by decide +kernel
theorem d_Mo_wishAsPair_20 : decode c_Mo_wishAsPair 20 = .ok (.getfield 20, 3) := by decide +kernel
theorem d_Mo_wishAsPair_23 : decode c_Mo_wishAsPair 23 = .ok (.iload_n 1, 1) := by decide +kernel
theorem d_Mo_wishAsPair_24 : decode c_Mo_wishAsPair 24 = .ok (.iaload, 1) := by decide +kernel
theorem d_Mo_wishAsPair_25 : decode c_Mo_wishAsPair 25 = .ok (.i2l, 1) := by decide +kernel
theorem d_Mo_wishAsPair_26 : decode c_Mo_wishAsPair 26 = .ok (.goto 4, 3) := by decide +kernel
theorem d_Mo_wishAsPair_29 : decode c_Mo_wishAsPair 29 = .ok (.lconst 0, 1) := by decide +kernel
theorem d_Mo_wishAsPair_30 : decode c_Mo_wishAsPair 30 = .ok (.lastore, 1) := by decide +kernel
theorem d_Mo_wishAsPair_31 : decode c_Mo_wishAsPair 31 = .ok (.aload_n 0, 1) := by decide +kernel
theorem d_Mo_wishAsPair_32 : decode c_Mo_wishAsPair 32 = .ok (.getfield 59, 3) := by decide +kernel
theorem d_Mo_wishAsPair_35 : decode c_Mo_wishAsPair 35 = .ok (.iload_n 1, 1) := by decide +kernel
theorem d_Mo_wishAsPair_36 : decode c_Mo_wishAsPair 36 = .ok (.iload_n 1, 1) := by decide +kernel
theorem d_Mo_wishAsPair_37 : decode c_Mo_wishAsPair 37 = .ok (.bipush 7, 2) := by decide +kernel
theorem d_Mo_wishAsPair_39 : decode c_Mo_wishAsPair 39 = .ok (.if_icmp .ge 16, 3) := by decide +kernel
theorem d_Mo_wishAsPair_42 : decode c_Mo_wishAsPair 42 = .ok (.aload_n 0, 1) := by decide +kernel
theorem d_Mo_wishAsPair_43 : decode c_Mo_wishAsPair 43 = .ok (.getfield 20, 3) := by decide +kernel
theorem d_Mo_wishAsPair_46 : decode c_Mo_wishAsPair 46 = .ok (.bipush 7, 2) := by decide +kernel
theorem d_Mo_wishAsPair_48 : decode c_Mo_wishAsPair 48 = .ok (.iload_n 1, 1) := by decide +kernel
theorem d_Mo_wishAsPair_49 : decode c_Mo_wishAsPair 49 = .ok (.iadd, 1) := by decide +kernel
theorem d_Mo_wishAsPair_50 : decode c_Mo_wishAsPair 50 = .ok (.iaload, 1) := by decide +kernel
theorem d_Mo_wishAsPair_51 : decode c_Mo_wishAsPair 51 = .ok (.i2l, 1) := by decide +kernel
theorem d_Mo_wishAsPair_52 : decode c_Mo_wishAsPair 52 = .ok (.goto 4, 3) := by decide +kernel
theorem d_Mo_wishAsPair_55 : decode c_Mo_wishAsPair 55 = .ok (.lconst 0, 1) := by decide +kernel
theorem d_Mo_wishAsPair_56 : decode c_Mo_wishAsPair 56 = .ok (.lastore, 1) := by decide +kernel
theorem d_Mo_wishAsPair_57 : decode c_Mo_wishAsPair 57 = .ok (.iinc 1 1, 3) := by decide +kernel
theorem d_Mo_wishAsPair_60 : decode c_Mo_wishAsPair 60 = .ok (.goto (-58), 3) := by decide +kernel
theorem d_Mo_wishAsPair_63 : decode c_Mo_wishAsPair 63 = .ok (.aload_n 0, 1) := by decide +kernel
theorem d_Mo_wishAsPair_64 : decode c_Mo_wishAsPair 64 = .ok (.invokevirtual 282, 3) := by decide +kernel
theorem d_Mo_wishAsPair_67 : decode c_Mo_wishAsPair 67 = .ok (.iconst 0, 1) := by decide +kernel
theorem d_Mo_wishAsPair_68 : decode c_Mo_wishAsPair 68 = .ok (.istore_n 1, 1) := by decide +kernel
theorem d_Mo_wishAsPair_69 : decode c_Mo_wishAsPair 69 = .ok (.iload_n 1, 1) := by decide +kernel
theorem d_Mo_wishAsPair_70 : decode c_Mo_wishAsPair 70 = .ok (.bipush 7, 2) := by decide +kernel
theorem d_Mo_wishAsPair_72 : decode c_Mo_wishAsPair 72 = .ok (.if_icmp .ge 38, 3) := by decide +kernel
theorem d_Mo_wishAsPair_75 : decode c_Mo_wishAsPair 75 = .ok (.aload_n 0, 1) := by decide +kernel
theorem d_Mo_wishAsPair_76 : decode c_Mo_wishAsPair 76 = .ok (.getfield 80, 3) := by decide +kernel
theorem d_Mo_wishAsPair_79 : decode c_Mo_wishAsPair 79 = .ok (.iload_n 1, 1) := by decide +kernel
theorem d_Mo_wishAsPair_80 : decode c_Mo_wishAsPair 80 = .ok (.aload_n 0, 1) := by decide +kernel
theorem d_Mo_wishAsPair_81 : decode c_Mo_wishAsPair 81 = .ok (.getfield 56, 3) := by decide +kernel
theorem d_Mo_wishAsPair_84 : decode c_Mo_wishAsPair 84 = .ok (.iload_n 1, 1) := by decide +kernel
theorem d_Mo_wishAsPair_85 : decode c_Mo_wishAsPair 85 = .ok (.laload, 1) := by decide +kernel
theorem d_Mo_wishAsPair_86 : decode c_Mo_wishAsPair 86 = .ok (.l2i, 1) := by decide +kernel
theorem d_Mo_wishAsPair_87 : decode c_Mo_wishAsPair 87 = .ok (.iastore, 1) := by decide +kernel
theorem d_Mo_wishAsPair_88 : decode c_Mo_wishAsPair 88 = .ok (.aload_n 0, 1) := by decide +kernel
theorem d_Mo_wishAsPair_89 : decode c_Mo_wishAsPair 89 = .ok (.getfield 80, 3) := by decide +kernel
theorem d_Mo_wishAsPair_92 : decode c_Mo_wishAsPair 92 = .ok (.bipush 7, 2) := by decide +kernel
theorem d_Mo_wishAsPair_94 : decode c_Mo_wishAsPair 94 = .ok (.iload_n 1, 1) := by decide +kernel
theorem d_Mo_wishAsPair_95 : decode c_Mo_wishAsPair 95 = .ok (.iadd, 1) := by decide +kernel
theorem d_Mo_wishAsPair_96 : decode c_Mo_wishAsPair 96 = .ok (.aload_n 0, 1) := by decide +kernel
theorem d_Mo_wishAsPair_97 : decode c_Mo_wishAsPair 97 = .ok (.getfield 59, 3) := by decide +kernel
theorem d_Mo_wishAsPair_100 : decode c_Mo_wishAsPair 100 = .ok (.iload_n 1, 1) := by decide +kernel
theorem d_Mo_wishAsPair_101 : decode c_Mo_wishAsPair 101 = .ok (.laload, 1) := by decide +kernel
theorem d_Mo_wishAsPair_102 : decode c_Mo_wishAsPair 102 = .ok (.l2i, 1) := by decide +kernel
theorem d_Mo_wishAsPair_103 : decode c_Mo_wishAsPair 103 = .ok (.iastore, 1) := by decide +kernel
theorem d_Mo_wishAsPair_104 : decode c_Mo_wishAsPair 104 = .ok (.iinc 1 1, 3) := by decide +kernel
theorem d_Mo_wishAsPair_107 : decode c_Mo_wishAsPair 107 = .ok (.goto (-38), 3) := by decide +kernel
theorem d_Mo_wishAsPair_110 : decode c_Mo_wishAsPair 110 = .ok (.return_, 1) := by decide +kernel
set_option maxRecDepth 20000 in
theorem w_Mo_wishAsPair_69b {X : HX} {ad : Nat → Nat} {I : HI} {J : HJ} {N : HN} {r : HI × HJ} {k69 : HI → HJ → Int32 → Option (HI × HJ)} {a0 : Nat} {x1 : Int32} (C : Cx X c_Mo_wishAsPair RX11 2 none rm_Mo_wishAsPair) (ha0 : gk Tm nM a0 (0, 11))
    (hk69 : ∀ (I : HI) (J : HJ) (x1 : Int32), k69 I J x1 = some r → G Tm X ad nM 0 0 I J N (gE X Tm ad nM (r.1, r.2, N, fun _ => none)) 69 2 [(0, .ref (ad a0)), (1, .int x1)] [])
    (h : Mo_wishAsPair_69b N a0 k69 I J x1 = some r) : G Tm X ad nM 0 0 I J N (gE X Tm ad nM (r.1, r.2, N, fun _ => none)) 69 2 [(0, .ref (ad a0)), (1, .int x1)] [] := by
  refine g_iload_n (pc := 69) C d_Mo_wishAsPair_69 rfl 1 rfl ?_
  refine g_bipush (pc := 70) C (7 : Int32) d_Mo_wishAsPair_70 (by decide) ?_
  refine g_icmp_ge (pc := 72) C 110 d_Mo_wishAsPair_72 rfl (fun e1 => ?_) (fun e1 => ?_)
  · have h := o_pos e1 h
    obtain rfl := o_ret h
    exact g_vret (pc := 110) C d_Mo_wishAsPair_110
  · have h := o_neg e1 h
    refine g_aload_n (pc := 75) C d_Mo_wishAsPair_75 rfl 0 rfl ?_
    obtain ⟨b2, hnb2, hb2, h⟩ := o_ra h
    refine g_get (pc := 76) (k := 32) (v := va_rf ((N a0 32).map ad)) C gcX11 inX11 (by decide) fl_Mo_80 ha0 rfl d_Mo_wishAsPair_76 ?_
    refine g_top (g_rf hnb2) ?_
    refine g_iload_n (pc := 79) C d_Mo_wishAsPair_79 rfl 1 rfl ?_
    refine g_aload_n (pc := 80) C d_Mo_wishAsPair_80 rfl 0 rfl ?_
    obtain ⟨b3, hnb3, hb3, h⟩ := o_ra h
    refine g_get (pc := 81) (k := 23) (v := va_rf ((N a0 23).map ad)) C gcX11 inX11 (by decide) fl_Mo_56 ha0 rfl d_Mo_wishAsPair_81 ?_
    refine g_top (g_rf hnb3) ?_
    refine g_iload_n (pc := 84) C d_Mo_wishAsPair_84 rfl 1 rfl ?_
    obtain ⟨hi4, h⟩ := o_gd h
    refine g_lald (pc := 85) C hb3 hi4 d_Mo_wishAsPair_85 ?_
    refine g_l2i (pc := 86) C d_Mo_wishAsPair_86 ?_
    obtain ⟨hi5, h⟩ := o_gd h
    refine g_iast (pc := 87) C hb2 hi5 d_Mo_wishAsPair_87 ?_
    obtain ⟨I6, eI6, h⟩ := o_bd h
    rw [← eI6]
    refine g_aload_n (pc := 88) C d_Mo_wishAsPair_88 rfl 0 rfl ?_
    obtain ⟨b7, hnb7, hb7, h⟩ := o_ra h
    refine g_get (pc := 89) (k := 32) (v := va_rf ((N a0 32).map ad)) C gcX11 inX11 (by decide) fl_Mo_80 ha0 rfl d_Mo_wishAsPair_89 ?_
    refine g_top (g_rf hnb7) ?_
    refine g_bipush (pc := 92) C (7 : Int32) d_Mo_wishAsPair_92 (by decide) ?_
    refine g_iload_n (pc := 94) C d_Mo_wishAsPair_94 rfl 1 rfl ?_
    refine g_iadd (pc := 95) C d_Mo_wishAsPair_95 ?_
    refine g_aload_n (pc := 96) C d_Mo_wishAsPair_96 rfl 0 rfl ?_
    obtain ⟨b8, hnb8, hb8, h⟩ := o_ra h
    refine g_get (pc := 97) (k := 24) (v := va_rf ((N a0 24).map ad)) C gcX11 inX11 (by decide) fl_Mo_59 ha0 rfl d_Mo_wishAsPair_97 ?_
    refine g_top (g_rf hnb8) ?_
    refine g_iload_n (pc := 100) C d_Mo_wishAsPair_100 rfl 1 rfl ?_
    obtain ⟨hi9, h⟩ := o_gd h
    refine g_lald (pc := 101) C hb8 hi9 d_Mo_wishAsPair_101 ?_
    refine g_l2i (pc := 102) C d_Mo_wishAsPair_102 ?_
    obtain ⟨hi10, h⟩ := o_gd h
    refine g_iast (pc := 103) C hb7 hi10 d_Mo_wishAsPair_103 ?_
    obtain ⟨I11, eI11, h⟩ := o_bd h
    rw [← eI11]
    refine g_iinc (pc := 104) (q := 1) (lv' := [(1, .int (x1 + 1)), (0, .ref (ad a0))]) C d_Mo_wishAsPair_104 rfl rfl (by decide) rfl ?_
    refine g_goto (pc := 107) C 69 d_Mo_wishAsPair_107 rfl ?_
    refine g_lv [1, 0] rfl ?_
    exact hk69 _ _ _ h
set_option maxRecDepth 20000 in
theorem w_Mo_wishAsPair_69 {X : HX} {ad : Nat → Nat} {N : HN} {r : HI × HJ} {a0 : Nat} (C : Cx X c_Mo_wishAsPair RX11 2 none rm_Mo_wishAsPair) (ha0 : gk Tm nM a0 (0, 11)) : ∀ (n : Nat) (I : HI) (J : HJ) (x1 : Int32), Mo_wishAsPair_69 N a0 n I J x1 = some r → G Tm X ad nM 0 0 I J N (gE X Tm ad nM (r.1, r.2, N, fun _ => none)) 69 2 [(0, .ref (ad a0)), (1, .int x1)] [] := by
  intro n
  induction n with
  | zero => intro I J x1 h; cases h
  | succ n ih => intro I J x1 h; exact w_Mo_wishAsPair_69b C ha0 ih h
set_option maxRecDepth 20000 in
theorem w_Mo_wishAsPair_56 {X : HX} {ad : Nat → Nat} {I : HI} {J : HJ} {N : HN} {r : HI × HJ} {k2 : HI → HJ → Int32 → Option (HI × HJ)} {a0 : Nat} {x1 : Int32} {bs0 : Nat} {s1 : Int32} {s2 : Int64} (C : Cx X c_Mo_wishAsPair RX11 2 none rm_Mo_wishAsPair) (ha0 : gk Tm nM a0 (0, 11)) (hbs0 : ga Tm nM bs0 2)
    (hk2 : ∀ (I : HI) (J : HJ) (x1 : Int32), k2 I J x1 = some r → G Tm X ad nM 0 0 I J N (gE X Tm ad nM (r.1, r.2, N, fun _ => none)) 2 2 [(0, .ref (ad a0)), (1, .int x1)] [])
    (h : Mo_wishAsPair_56 N a0 k2 I J x1 bs0 s1 s2 = some r) : G Tm X ad nM 0 0 I J N (gE X Tm ad nM (r.1, r.2, N, fun _ => none)) 56 2 [(0, .ref (ad a0)), (1, .int x1)] [.long s2, .int s1, .ref (ad bs0)] := by
  obtain ⟨hi1, h⟩ := o_gd h
  refine g_last (pc := 56) C hbs0 hi1 d_Mo_wishAsPair_56 ?_
  obtain ⟨J2, eJ2, h⟩ := o_bd h
  rw [← eJ2]
  refine g_iinc (pc := 57) (q := 1) (lv' := [(1, .int (x1 + 1)), (0, .ref (ad a0))]) C d_Mo_wishAsPair_57 rfl rfl (by decide) rfl ?_
  refine g_goto (pc := 60) C 2 d_Mo_wishAsPair_60 rfl ?_
  refine g_lv [1, 0] rfl ?_
  exact hk2 _ _ _ h
set_option maxRecDepth 20000 in
theorem w_Mo_wishAsPair_30 {X : HX} {ad : Nat → Nat} {I : HI} {J : HJ} {N : HN} {r : HI × HJ} {k2 : HI → HJ → Int32 → Option (HI × HJ)} {a0 : Nat} {x1 : Int32} {bs0 : Nat} {s1 : Int32} {s2 : Int64} (C : Cx X c_Mo_wishAsPair RX11 2 none rm_Mo_wishAsPair) (ha0 : gk Tm nM a0 (0, 11)) (hbs0 : ga Tm nM bs0 2)
    (hk2 : ∀ (I : HI) (J : HJ) (x1 : Int32), k2 I J x1 = some r → G Tm X ad nM 0 0 I J N (gE X Tm ad nM (r.1, r.2, N, fun _ => none)) 2 2 [(0, .ref (ad a0)), (1, .int x1)] [])
    (h : Mo_wishAsPair_30 N a0 k2 I J x1 bs0 s1 s2 = some r) : G Tm X ad nM 0 0 I J N (gE X Tm ad nM (r.1, r.2, N, fun _ => none)) 30 2 [(0, .ref (ad a0)), (1, .int x1)] [.long s2, .int s1, .ref (ad bs0)] := by
  obtain ⟨hi1, h⟩ := o_gd h
  refine g_last (pc := 30) C hbs0 hi1 d_Mo_wishAsPair_30 ?_
  obtain ⟨J2, eJ2, h⟩ := o_bd h
  rw [← eJ2]
  refine g_aload_n (pc := 31) C d_Mo_wishAsPair_31 rfl 0 rfl ?_
  obtain ⟨b3, hnb3, hb3, h⟩ := o_ra h
  refine g_get (pc := 32) (k := 24) (v := va_rf ((N a0 24).map ad)) C gcX11 inX11 (by decide) fl_Mo_59 ha0 rfl d_Mo_wishAsPair_32 ?_
  refine g_top (g_rf hnb3) ?_
  refine g_iload_n (pc := 35) C d_Mo_wishAsPair_35 rfl 1 rfl ?_
  refine g_iload_n (pc := 36) C d_Mo_wishAsPair_36 rfl 1 rfl ?_
  refine g_bipush (pc := 37) C (7 : Int32) d_Mo_wishAsPair_37 (by decide) ?_
  refine g_icmp_ge (pc := 39) C 55 d_Mo_wishAsPair_39 rfl (fun e4 => ?_) (fun e4 => ?_)
  · have h := o_pos e4 h
    refine g_lconst (pc := 55) C (0 : Int64) d_Mo_wishAsPair_55 (by decide) ?_
    refine g_lv [0, 1] rfl ?_
    exact w_Mo_wishAsPair_56 C ha0 hb3 hk2 h
  · have h := o_neg e4 h
    refine g_aload_n (pc := 42) C d_Mo_wishAsPair_42 rfl 0 rfl ?_
    obtain ⟨b5, hnb5, hb5, h⟩ := o_ra h
    refine g_get (pc := 43) (k := 4) (v := va_rf ((N a0 4).map ad)) C gcX11 inX11 (by decide) fl_Mo_20 ha0 rfl d_Mo_wishAsPair_43 ?_
    refine g_top (g_rf hnb5) ?_
    refine g_bipush (pc := 46) C (7 : Int32) d_Mo_wishAsPair_46 (by decide) ?_
    refine g_iload_n (pc := 48) C d_Mo_wishAsPair_48 rfl 1 rfl ?_
    refine g_iadd (pc := 49) C d_Mo_wishAsPair_49 ?_
    obtain ⟨hi6, h⟩ := o_gd h
    refine g_iald (pc := 50) C hb5 hi6 d_Mo_wishAsPair_50 ?_
    refine g_i2l (pc := 51) C d_Mo_wishAsPair_51 ?_
    refine g_goto (pc := 52) C 56 d_Mo_wishAsPair_52 rfl ?_
    refine g_lv [0, 1] rfl ?_
    exact w_Mo_wishAsPair_56 C ha0 hb3 hk2 h
set_option maxRecDepth 20000 in
theorem w_Mo_wishAsPair_2b {X : HX} {ad : Nat → Nat} {I : HI} {J : HJ} {N : HN} {r : HI × HJ} {k2 : HI → HJ → Int32 → Option (HI × HJ)} {a0 : Nat} {x1 : Int32} (C : Cx X c_Mo_wishAsPair RX11 2 none rm_Mo_wishAsPair) (ha0 : gk Tm nM a0 (0, 11))
    (hk2 : ∀ (I : HI) (J : HJ) (x1 : Int32), k2 I J x1 = some r → G Tm X ad nM 0 0 I J N (gE X Tm ad nM (r.1, r.2, N, fun _ => none)) 2 2 [(0, .ref (ad a0)), (1, .int x1)] [])
    (h : Mo_wishAsPair_2b N a0 k2 I J x1 = some r) : G Tm X ad nM 0 0 I J N (gE X Tm ad nM (r.1, r.2, N, fun _ => none)) 2 2 [(0, .ref (ad a0)), (1, .int x1)] [] := by
  refine g_iload_n (pc := 2) C d_Mo_wishAsPair_2 rfl 1 rfl ?_
  refine g_bipush (pc := 3) C (14 : Int32) d_Mo_wishAsPair_3 (by decide) ?_
  refine g_icmp_ge (pc := 5) C 63 d_Mo_wishAsPair_5 rfl (fun e1 => ?_) (fun e1 => ?_)
  · have h := o_pos e1 h
    refine g_aload_n (pc := 63) C d_Mo_wishAsPair_63 rfl 0 rfl ?_
    obtain ⟨J2, hc3, h⟩ := o_bn1 h
    refine g_V (pc := 64) (rest := []) C (k_Mo_asPair (xl X) ha0 hc3) sm_Mo_asPair ml_Mo_282 im_Mo_asPair se_Mo_asPair gcX11 rfl ha0 ⟨rfl, rfl, Nat.le_of_ble_eq_true rfl, Nat.le_of_ble_eq_true rfl⟩ ⟨Nat.zero_le _, Nat.zero_le _⟩ rfl rfl (Nat.le_of_ble_eq_true rfl) d_Mo_wishAsPair_64 [] rfl ?_
    refine g_iconst (pc := 67) C (0 : Int32) d_Mo_wishAsPair_67 (by decide) ?_
    refine g_istore_n (pc := 68) (lv' := [(1, .int (0 : Int32)), (0, .ref (ad a0))]) C d_Mo_wishAsPair_68 rfl (by decide) rfl ?_
    refine g_lv [1, 0] rfl ?_
    exact w_Mo_wishAsPair_69 C ha0 _ _ _ _ h
  · have h := o_neg e1 h
    refine g_aload_n (pc := 8) C d_Mo_wishAsPair_8 rfl 0 rfl ?_
    obtain ⟨b4, hnb4, hb4, h⟩ := o_ra h
    refine g_get (pc := 9) (k := 23) (v := va_rf ((N a0 23).map ad)) C gcX11 inX11 (by decide) fl_Mo_56 ha0 rfl d_Mo_wishAsPair_9 ?_
    refine g_top (g_rf hnb4) ?_
    refine g_iload_n (pc := 12) C d_Mo_wishAsPair_12 rfl 1 rfl ?_
    refine g_iload_n (pc := 13) C d_Mo_wishAsPair_13 rfl 1 rfl ?_
    refine g_bipush (pc := 14) C (7 : Int32) d_Mo_wishAsPair_14 (by decide) ?_
    refine g_icmp_ge (pc := 16) C 29 d_Mo_wishAsPair_16 rfl (fun e5 => ?_) (fun e5 => ?_)
    · have h := o_pos e5 h
      refine g_lconst (pc := 29) C (0 : Int64) d_Mo_wishAsPair_29 (by decide) ?_
      refine g_lv [0, 1] rfl ?_
      exact w_Mo_wishAsPair_30 C ha0 hb4 hk2 h
    · have h := o_neg e5 h
      refine g_aload_n (pc := 19) C d_Mo_wishAsPair_19 rfl 0 rfl ?_
      obtain ⟨b6, hnb6, hb6, h⟩ := o_ra h
      refine g_get (pc := 20) (k := 4) (v := va_rf ((N a0 4).map ad)) C gcX11 inX11 (by decide) fl_Mo_20 ha0 rfl d_Mo_wishAsPair_20 ?_
      refine g_top (g_rf hnb6) ?_
      refine g_iload_n (pc := 23) C d_Mo_wishAsPair_23 rfl 1 rfl ?_
      obtain ⟨hi7, h⟩ := o_gd h
      refine g_iald (pc := 24) C hb6 hi7 d_Mo_wishAsPair_24 ?_
      refine g_i2l (pc := 25) C d_Mo_wishAsPair_25 ?_
      refine g_goto (pc := 26) C 30 d_Mo_wishAsPair_26 rfl ?_
      refine g_lv [0, 1] rfl ?_
      exact w_Mo_wishAsPair_30 C ha0 hb4 hk2 h
set_option maxRecDepth 20000 in
theorem w_Mo_wishAsPair_2 {X : HX} {ad : Nat → Nat} {N : HN} {r : HI × HJ} {a0 : Nat} (C : Cx X c_Mo_wishAsPair RX11 2 none rm_Mo_wishAsPair) (ha0 : gk Tm nM a0 (0, 11)) : ∀ (n : Nat) (I : HI) (J : HJ) (x1 : Int32), Mo_wishAsPair_2 N a0 n I J x1 = some r → G Tm X ad nM 0 0 I J N (gE X Tm ad nM (r.1, r.2, N, fun _ => none)) 2 2 [(0, .ref (ad a0)), (1, .int x1)] [] := by
  intro n
  induction n with
  | zero => intro I J x1 h; cases h
  | succ n ih => intro I J x1 h; exact w_Mo_wishAsPair_2b C ha0 ih h
set_option maxRecDepth 20000 in
theorem w_Mo_wishAsPair_0 {X : HX} {ad : Nat → Nat} {I : HI} {J : HJ} {N : HN} {r : HI × HJ} {a0 : Nat} (C : Cx X c_Mo_wishAsPair RX11 2 none rm_Mo_wishAsPair) (ha0 : gk Tm nM a0 (0, 11))
    (h : Mo_wishAsPair_0 N a0 I J = some r) : G Tm X ad nM 0 0 I J N (gE X Tm ad nM (r.1, r.2, N, fun _ => none)) 0 2 [(0, .ref (ad a0))] [] := by
  refine g_iconst (pc := 0) C (0 : Int32) d_Mo_wishAsPair_0 (by decide) ?_
  refine g_istore_n (pc := 1) (lv' := [(1, .int (0 : Int32)), (0, .ref (ad a0))]) C d_Mo_wishAsPair_1 rfl (by decide) rfl ?_
  refine g_lv [1, 0] rfl ?_
  exact w_Mo_wishAsPair_2 C ha0 _ _ _ _ h
set_option maxRecDepth 20000 in
theorem k_Mo_wishAsPair (l : Launch) {I : HI} {J : HJ} {N : HN} {a0 : Nat} {r : HI × HJ} (ha0 : gk Tm nM a0 (0, 11)) (h : Mo_wishAsPair N a0 I J = some r) : gM l y_Mo_wishAsPair c_Mo_wishAsPair 2 none rm_Mo_wishAsPair Tm nM I J N (fun ad => [.ref (ad a0)]) (r.1, r.2, N, fun _ => none) :=
  g_meth (lv := fun ad => [(0, .ref (ad a0))]) (by decide) (fun _ => Nat.le_of_ble_eq_true rfl) (fun _ => rfl) (fun X ad C => g_lv [0] rfl (w_Mo_wishAsPair_0 C ha0 h))
theorem d_Mo_found_0 : decode c_Mo_found 0 = .ok (.aload_n 0, 1) := by decide +kernel
theorem d_Mo_found_1 : decode c_Mo_found 1 = .ok (.invokevirtual 322, 3) := by decide +kernel
theorem d_Mo_found_4 : decode c_Mo_found 4 = .ok (.iconst 0, 1) := by decide +kernel
theorem d_Mo_found_5 : decode c_Mo_found 5 = .ok (.istore_n 1, 1) := by decide +kernel
theorem d_Mo_found_6 : decode c_Mo_found 6 = .ok (.iload_n 1, 1) := by decide +kernel
theorem d_Mo_found_7 : decode c_Mo_found 7 = .ok (.aload_n 0, 1) := by decide +kernel
theorem d_Mo_found_8 : decode c_Mo_found 8 = .ok (.getfield 325, 3) := by decide +kernel
theorem d_Mo_found_11 : decode c_Mo_found 11 = .ok (.if_icmp .ge 61, 3) := by decide +kernel
theorem d_Mo_found_14 : decode c_Mo_found 14 = .ok (.iconst 1, 1) := by decide +kernel
theorem d_Mo_found_15 : decode c_Mo_found 15 = .ok (.istore_n 2, 1) := by decide +kernel
theorem d_Mo_found_16 : decode c_Mo_found 16 = .ok (.iconst 0, 1) := by decide +kernel
theorem d_Mo_found_17 : decode c_Mo_found 17 = .ok (.istore_n 3, 1) := by decide +kernel
theorem d_Mo_found_18 : decode c_Mo_found 18 = .ok (.iload_n 3, 1) := by decide +kernel
theorem d_Mo_found_19 : decode c_Mo_found 19 = .ok (.bipush 14, 2) := by decide +kernel
theorem d_Mo_found_21 : decode c_Mo_found 21 = .ok (.if_icmp .ge 39, 3) := by decide +kernel
theorem d_Mo_found_24 : decode c_Mo_found 24 = .ok (.iload_n 2, 1) := by decide +kernel
theorem d_Mo_found_25 : decode c_Mo_found 25 = .ok (.ifCond .eq 27, 3) := by decide +kernel
theorem d_Mo_found_28 : decode c_Mo_found 28 = .ok (.aload_n 0, 1) := by decide +kernel
theorem d_Mo_found_29 : decode c_Mo_found 29 = .ok (.getfield 74, 3) := by decide +kernel
theorem d_Mo_found_32 : decode c_Mo_found 32 = .ok (.bipush 14, 2) := by decide +kernel
theorem d_Mo_found_34 : decode c_Mo_found 34 = .ok (.iload_n 1, 1) := by decide +kernel
theorem d_Mo_found_35 : decode c_Mo_found 35 = .ok (.imul, 1) := by decide +kernel
theorem d_Mo_found_36 : decode c_Mo_found 36 = .ok (.iload_n 3, 1) := by decide +kernel
theorem d_Mo_found_37 : decode c_Mo_found 37 = .ok (.iadd, 1) := by decide +kernel
theorem d_Mo_found_38 : decode c_Mo_found 38 = .ok (.iaload, 1) := by decide +kernel
theorem d_Mo_found_39 : decode c_Mo_found 39 = .ok (.aload_n 0, 1) := by decide +kernel
theorem d_Mo_found_40 : decode c_Mo_found 40 = .ok (.getfield 80, 3) := by decide +kernel
theorem d_Mo_found_43 : decode c_Mo_found 43 = .ok (.iload_n 3, 1) := by decide +kernel
theorem d_Mo_found_44 : decode c_Mo_found 44 = .ok (.iaload, 1) := by decide +kernel
theorem d_Mo_found_45 : decode c_Mo_found 45 = .ok (.if_icmp .ne 7, 3) := by decide +kernel
theorem d_Mo_found_48 : decode c_Mo_found 48 = .ok (.iconst 1, 1) := by decide +kernel
theorem d_Mo_found_49 : decode c_Mo_found 49 = .ok (.goto 4, 3) := by decide +kernel
theorem d_Mo_found_52 : decode c_Mo_found 52 = .ok (.iconst 0, 1) := by decide +kernel
theorem d_Mo_found_53 : decode c_Mo_found 53 = .ok (.istore_n 2, 1) := by decide +kernel
theorem d_Mo_found_54 : decode c_Mo_found 54 = .ok (.iinc 3 1, 3) := by decide +kernel
theorem d_Mo_found_57 : decode c_Mo_found 57 = .ok (.goto (-39), 3) := by decide +kernel
theorem d_Mo_found_60 : decode c_Mo_found 60 = .ok (.iload_n 2, 1) := by decide +kernel
theorem d_Mo_found_61 : decode c_Mo_found 61 = .ok (.ifCond .eq 5, 3) := by decide +kernel
theorem d_Mo_found_64 : decode c_Mo_found 64 = .ok (.iload_n 1, 1) := by decide +kernel
theorem d_Mo_found_65 : decode c_Mo_found 65 = .ok (.ireturn, 1) := by decide +kernel
theorem d_Mo_found_66 : decode c_Mo_found 66 = .ok (.iinc 1 1, 3) := by decide +kernel
theorem d_Mo_found_69 : decode c_Mo_found 69 = .ok (.goto (-63), 3) := by decide +kernel
theorem d_Mo_found_72 : decode c_Mo_found 72 = .ok (.iconst (-1), 1) := by decide +kernel
theorem d_Mo_found_73 : decode c_Mo_found 73 = .ok (.ireturn, 1) := by decide +kernel
set_option maxRecDepth 20000 in
theorem w_Mo_found_53 {X : HX} {ad : Nat → Nat} {I : HI} {J : HJ} {N : HN} {r : HI × HJ × Int32} {k6 : HI → HJ → Int32 → Option (HI × HJ × Int32)} {k18 : HI → HJ → Int32 → Int32 → Int32 → Option (HI × HJ × Int32)} {a0 : Nat} {x1 : Int32} {x3 : Int32} {s0 : Int32} (C : Cx X c_Mo_found RX11 4 (some .int) rm_Mo_found) (ha0 : gk Tm nM a0 (0, 11))
    (hk6 : ∀ (I : HI) (J : HJ) (x1 : Int32), k6 I J x1 = some r → G Tm X ad nM 0 0 I J N (gE X Tm ad nM (r.1, r.2.1, N, fun _ => some (.int r.2.2))) 6 4 [(0, .ref (ad a0)), (1, .int x1)] [])
    (hk18 : ∀ (I : HI) (J : HJ) (x1 : Int32) (x2 : Int32) (x3 : Int32), k18 I J x1 x2 x3 = some r → G Tm X ad nM 0 0 I J N (gE X Tm ad nM (r.1, r.2.1, N, fun _ => some (.int r.2.2))) 18 4 [(0, .ref (ad a0)), (1, .int x1), (2, .int x2), (3, .int x3)] [])
    (h : Mo_found_53 N a0 k6 k18 I J x1 x3 s0 = some r) : G Tm X ad nM 0 0 I J N (gE X Tm ad nM (r.1, r.2.1, N, fun _ => some (.int r.2.2))) 53 4 [(0, .ref (ad a0)), (1, .int x1), (3, .int x3)] [.int s0] := by
  refine g_istore_n (pc := 53) (lv' := [(2, .int s0), (0, .ref (ad a0)), (1, .int x1), (3, .int x3)]) C d_Mo_found_53 rfl (by decide) rfl ?_
  refine g_iinc (pc := 54) (q := 3) (lv' := [(3, .int (x3 + 1)), (2, .int s0), (0, .ref (ad a0)), (1, .int x1)]) C d_Mo_found_54 rfl rfl (by decide) rfl ?_
  refine g_goto (pc := 57) C 18 d_Mo_found_57 rfl ?_
  refine g_lv [2, 3, 1, 0] rfl ?_
  exact hk18 _ _ _ _ _ h
set_option maxRecDepth 20000 in
theorem w_Mo_found_52 {X : HX} {ad : Nat → Nat} {I : HI} {J : HJ} {N : HN} {r : HI × HJ × Int32} {k6 : HI → HJ → Int32 → Option (HI × HJ × Int32)} {k18 : HI → HJ → Int32 → Int32 → Int32 → Option (HI × HJ × Int32)} {a0 : Nat} {x1 : Int32} {x3 : Int32} (C : Cx X c_Mo_found RX11 4 (some .int) rm_Mo_found) (ha0 : gk Tm nM a0 (0, 11))
    (hk6 : ∀ (I : HI) (J : HJ) (x1 : Int32), k6 I J x1 = some r → G Tm X ad nM 0 0 I J N (gE X Tm ad nM (r.1, r.2.1, N, fun _ => some (.int r.2.2))) 6 4 [(0, .ref (ad a0)), (1, .int x1)] [])
    (hk18 : ∀ (I : HI) (J : HJ) (x1 : Int32) (x2 : Int32) (x3 : Int32), k18 I J x1 x2 x3 = some r → G Tm X ad nM 0 0 I J N (gE X Tm ad nM (r.1, r.2.1, N, fun _ => some (.int r.2.2))) 18 4 [(0, .ref (ad a0)), (1, .int x1), (2, .int x2), (3, .int x3)] [])
    (h : Mo_found_52 N a0 k6 k18 I J x1 x3 = some r) : G Tm X ad nM 0 0 I J N (gE X Tm ad nM (r.1, r.2.1, N, fun _ => some (.int r.2.2))) 52 4 [(0, .ref (ad a0)), (1, .int x1), (3, .int x3)] [] := by
  refine g_iconst (pc := 52) C (0 : Int32) d_Mo_found_52 (by decide) ?_
  refine g_lv [0, 1, 2] rfl ?_
  exact w_Mo_found_53 C ha0 hk6 hk18 h
set_option maxRecDepth 20000 in
theorem w_Mo_found_18b {X : HX} {ad : Nat → Nat} {I : HI} {J : HJ} {N : HN} {r : HI × HJ × Int32} {k6 : HI → HJ → Int32 → Option (HI × HJ × Int32)} {k18 : HI → HJ → Int32 → Int32 → Int32 → Option (HI × HJ × Int32)} {a0 : Nat} {x1 : Int32} {x2 : Int32} {x3 : Int32} (C : Cx X c_Mo_found RX11 4 (some .int) rm_Mo_found) (ha0 : gk Tm nM a0 (0, 11))
    (hk6 : ∀ (I : HI) (J : HJ) (x1 : Int32), k6 I J x1 = some r → G Tm X ad nM 0 0 I J N (gE X Tm ad nM (r.1, r.2.1, N, fun _ => some (.int r.2.2))) 6 4 [(0, .ref (ad a0)), (1, .int x1)] [])
    (hk18 : ∀ (I : HI) (J : HJ) (x1 : Int32) (x2 : Int32) (x3 : Int32), k18 I J x1 x2 x3 = some r → G Tm X ad nM 0 0 I J N (gE X Tm ad nM (r.1, r.2.1, N, fun _ => some (.int r.2.2))) 18 4 [(0, .ref (ad a0)), (1, .int x1), (2, .int x2), (3, .int x3)] [])
    (h : Mo_found_18b N a0 k6 k18 I J x1 x2 x3 = some r) : G Tm X ad nM 0 0 I J N (gE X Tm ad nM (r.1, r.2.1, N, fun _ => some (.int r.2.2))) 18 4 [(0, .ref (ad a0)), (1, .int x1), (2, .int x2), (3, .int x3)] [] := by
  refine g_iload_n (pc := 18) C d_Mo_found_18 rfl 3 rfl ?_
  refine g_bipush (pc := 19) C (14 : Int32) d_Mo_found_19 (by decide) ?_
  refine g_icmp_ge (pc := 21) C 60 d_Mo_found_21 rfl (fun e1 => ?_) (fun e1 => ?_)
  · have h := o_pos e1 h
    refine g_iload_n (pc := 60) C d_Mo_found_60 rfl 2 rfl ?_
    refine g_if_eq (pc := 61) C 66 d_Mo_found_61 rfl (fun e2 => ?_) (fun e2 => ?_)
    · have h := o_pos e2 h
      refine g_iinc (pc := 66) (q := 1) (lv' := [(1, .int (x1 + 1)), (0, .ref (ad a0)), (2, .int x2), (3, .int x3)]) C d_Mo_found_66 rfl rfl (by decide) rfl ?_
      refine g_goto (pc := 69) C 6 d_Mo_found_69 rfl ?_
      refine g_lv [1, 0] rfl ?_
      exact hk6 _ _ _ h
    · have h := o_neg e2 h
      refine g_iload_n (pc := 64) C d_Mo_found_64 rfl 1 rfl ?_
      obtain rfl := o_ret h
      exact g_iret (pc := 65) C d_Mo_found_65
  · have h := o_neg e1 h
    refine g_iload_n (pc := 24) C d_Mo_found_24 rfl 2 rfl ?_
    refine g_if_eq (pc := 25) C 52 d_Mo_found_25 rfl (fun e3 => ?_) (fun e3 => ?_)
    · have h := o_pos e3 h
      refine g_lv [0, 1, 3] rfl ?_
      exact w_Mo_found_52 C ha0 hk6 hk18 h
    · have h := o_neg e3 h
      refine g_aload_n (pc := 28) C d_Mo_found_28 rfl 0 rfl ?_
      obtain ⟨b4, hnb4, hb4, h⟩ := o_ra h
      refine g_get (pc := 29) (k := 29) (v := va_rf ((N a0 29).map ad)) C gcX11 inX11 (by decide) fl_Mo_74 ha0 rfl d_Mo_found_29 ?_
      refine g_top (g_rf hnb4) ?_
      refine g_bipush (pc := 32) C (14 : Int32) d_Mo_found_32 (by decide) ?_
      refine g_iload_n (pc := 34) C d_Mo_found_34 rfl 1 rfl ?_
      refine g_imul (pc := 35) C d_Mo_found_35 ?_
      refine g_iload_n (pc := 36) C d_Mo_found_36 rfl 3 rfl ?_
      refine g_iadd (pc := 37) C d_Mo_found_37 ?_
      obtain ⟨hi5, h⟩ := o_gd h
      refine g_iald (pc := 38) C hb4 hi5 d_Mo_found_38 ?_
      refine g_aload_n (pc := 39) C d_Mo_found_39 rfl 0 rfl ?_
      obtain ⟨b6, hnb6, hb6, h⟩ := o_ra h
      refine g_get (pc := 40) (k := 32) (v := va_rf ((N a0 32).map ad)) C gcX11 inX11 (by decide) fl_Mo_80 ha0 rfl d_Mo_found_40 ?_
      refine g_top (g_rf hnb6) ?_
      refine g_iload_n (pc := 43) C d_Mo_found_43 rfl 3 rfl ?_
      obtain ⟨hi7, h⟩ := o_gd h
      refine g_iald (pc := 44) C hb6 hi7 d_Mo_found_44 ?_
      refine g_icmp_ne (pc := 45) C 52 d_Mo_found_45 rfl (fun e8 => ?_) (fun e8 => ?_)
      · have h := o_neg e8 h
        refine g_lv [0, 1, 3] rfl ?_
        exact w_Mo_found_52 C ha0 hk6 hk18 h
      · have h := o_pos e8 h
        refine g_iconst (pc := 48) C (1 : Int32) d_Mo_found_48 (by decide) ?_
        refine g_goto (pc := 49) C 53 d_Mo_found_49 rfl ?_
        refine g_lv [0, 1, 3] rfl ?_
        exact w_Mo_found_53 C ha0 hk6 hk18 h
set_option maxRecDepth 20000 in
theorem w_Mo_found_18 {X : HX} {ad : Nat → Nat} {N : HN} {r : HI × HJ × Int32} {k6 : HI → HJ → Int32 → Option (HI × HJ × Int32)} {a0 : Nat} (C : Cx X c_Mo_found RX11 4 (some .int) rm_Mo_found) (ha0 : gk Tm nM a0 (0, 11))
    (hk6 : ∀ (I : HI) (J : HJ) (x1 : Int32), k6 I J x1 = some r → G Tm X ad nM 0 0 I J N (gE X Tm ad nM (r.1, r.2.1, N, fun _ => some (.int r.2.2))) 6 4 [(0, .ref (ad a0)), (1, .int x1)] []) : ∀ (n : Nat) (I : HI) (J : HJ) (x1 : Int32) (x2 : Int32) (x3 : Int32), Mo_found_18 N a0 k6 n I J x1 x2 x3 = some r → G Tm X ad nM 0 0 I J N (gE X Tm ad nM (r.1, r.2.1, N, fun _ => some (.int r.2.2))) 18 4 [(0, .ref (ad a0)), (1, .int x1), (2, .int x2), (3, .int x3)] [] := by
  intro n
  induction n with
  | zero => intro I J x1 x2 x3 h; cases h
  | succ n ih => intro I J x1 x2 x3 h; exact w_Mo_found_18b C ha0 hk6 ih h
set_option maxRecDepth 20000 in
theorem w_Mo_found_6b {X : HX} {ad : Nat → Nat} {I : HI} {J : HJ} {N : HN} {r : HI × HJ × Int32} {k6 : HI → HJ → Int32 → Option (HI × HJ × Int32)} {a0 : Nat} {x1 : Int32} (C : Cx X c_Mo_found RX11 4 (some .int) rm_Mo_found) (ha0 : gk Tm nM a0 (0, 11))
    (hk6 : ∀ (I : HI) (J : HJ) (x1 : Int32), k6 I J x1 = some r → G Tm X ad nM 0 0 I J N (gE X Tm ad nM (r.1, r.2.1, N, fun _ => some (.int r.2.2))) 6 4 [(0, .ref (ad a0)), (1, .int x1)] [])
    (h : Mo_found_6b N a0 k6 I J x1 = some r) : G Tm X ad nM 0 0 I J N (gE X Tm ad nM (r.1, r.2.1, N, fun _ => some (.int r.2.2))) 6 4 [(0, .ref (ad a0)), (1, .int x1)] [] := by
  refine g_iload_n (pc := 6) C d_Mo_found_6 rfl 1 rfl ?_
  refine g_aload_n (pc := 7) C d_Mo_found_7 rfl 0 rfl ?_
  refine g_get (pc := 8) (k := 31) (v := .int (I a0 31)) C gcX11 inX11 (by decide) fl_Mo_325 ha0 rfl d_Mo_found_8 ?_
  refine g_icmp_ge (pc := 11) C 72 d_Mo_found_11 rfl (fun e1 => ?_) (fun e1 => ?_)
  · have h := o_pos e1 h
    refine g_iconst (pc := 72) C (-1 : Int32) d_Mo_found_72 (by decide) ?_
    obtain rfl := o_ret h
    exact g_iret (pc := 73) C d_Mo_found_73
  · have h := o_neg e1 h
    refine g_iconst (pc := 14) C (1 : Int32) d_Mo_found_14 (by decide) ?_
    refine g_istore_n (pc := 15) (lv' := [(2, .int (1 : Int32)), (0, .ref (ad a0)), (1, .int x1)]) C d_Mo_found_15 rfl (by decide) rfl ?_
    refine g_iconst (pc := 16) C (0 : Int32) d_Mo_found_16 (by decide) ?_
    refine g_istore_n (pc := 17) (lv' := [(3, .int (0 : Int32)), (2, .int (1 : Int32)), (0, .ref (ad a0)), (1, .int x1)]) C d_Mo_found_17 rfl (by decide) rfl ?_
    refine g_lv [2, 3, 1, 0] rfl ?_
    exact w_Mo_found_18 C ha0 hk6 _ _ _ _ _ _ h
set_option maxRecDepth 20000 in
theorem w_Mo_found_6 {X : HX} {ad : Nat → Nat} {N : HN} {r : HI × HJ × Int32} {a0 : Nat} (C : Cx X c_Mo_found RX11 4 (some .int) rm_Mo_found) (ha0 : gk Tm nM a0 (0, 11)) : ∀ (n : Nat) (I : HI) (J : HJ) (x1 : Int32), Mo_found_6 N a0 n I J x1 = some r → G Tm X ad nM 0 0 I J N (gE X Tm ad nM (r.1, r.2.1, N, fun _ => some (.int r.2.2))) 6 4 [(0, .ref (ad a0)), (1, .int x1)] [] := by
  intro n
  induction n with
  | zero => intro I J x1 h; cases h
  | succ n ih => intro I J x1 h; exact w_Mo_found_6b C ha0 ih h
set_option maxRecDepth 20000 in
theorem w_Mo_found_0 {X : HX} {ad : Nat → Nat} {I : HI} {J : HJ} {N : HN} {r : HI × HJ × Int32} {a0 : Nat} (C : Cx X c_Mo_found RX11 4 (some .int) rm_Mo_found) (ha0 : gk Tm nM a0 (0, 11))
    (h : Mo_found_0 N a0 I J = some r) : G Tm X ad nM 0 0 I J N (gE X Tm ad nM (r.1, r.2.1, N, fun _ => some (.int r.2.2))) 0 4 [(0, .ref (ad a0))] [] := by
  refine g_aload_n (pc := 0) C d_Mo_found_0 rfl 0 rfl ?_
  obtain ⟨I1, J2, hc3, h⟩ := o_bn2 h
  refine g_V (pc := 1) (rest := []) C (k_Mo_wishAsPair (xl X) ha0 hc3) sm_Mo_wishAsPair ml_Mo_322 im_Mo_wishAsPair se_Mo_wishAsPair gcX11 rfl ha0 ⟨rfl, rfl, Nat.le_of_ble_eq_true rfl, Nat.le_of_ble_eq_true rfl⟩ ⟨Nat.zero_le _, Nat.zero_le _⟩ rfl rfl (Nat.le_of_ble_eq_true rfl) d_Mo_found_1 [] rfl ?_
  refine g_iconst (pc := 4) C (0 : Int32) d_Mo_found_4 (by decide) ?_
  refine g_istore_n (pc := 5) (lv' := [(1, .int (0 : Int32)), (0, .ref (ad a0))]) C d_Mo_found_5 rfl (by decide) rfl ?_
  refine g_lv [1, 0] rfl ?_
  exact w_Mo_found_6 C ha0 _ _ _ _ h
set_option maxRecDepth 20000 in
theorem k_Mo_found (l : Launch) {I : HI} {J : HJ} {N : HN} {a0 : Nat} {r : HI × HJ × Int32} (ha0 : gk Tm nM a0 (0, 11)) (h : Mo_found N a0 I J = some r) : gM l y_Mo_found c_Mo_found 4 (some .int) rm_Mo_found Tm nM I J N (fun ad => [.ref (ad a0)]) (r.1, r.2.1, N, fun _ => some (.int r.2.2)) :=
  g_meth (lv := fun ad => [(0, .ref (ad a0))]) (by decide) (fun _ => Nat.le_of_ble_eq_true rfl) (fun _ => rfl) (fun X ad C => g_lv [0] rfl (w_Mo_found_0 C ha0 h))
theorem d_Mo_keep_0 : decode c_Mo_keep 0 = .ok (.aload_n 0, 1) := by decide +kernel
theorem d_Mo_keep_1 : decode c_Mo_keep 1 = .ok (.invokevirtual 328, 3) := by decide +kernel
theorem d_Mo_keep_4 : decode c_Mo_keep 4 = .ok (.istore_n 1, 1) := by decide +kernel
theorem d_Mo_keep_5 : decode c_Mo_keep 5 = .ok (.iload_n 1, 1) := by decide +kernel
theorem d_Mo_keep_6 : decode c_Mo_keep 6 = .ok (.iconst (-1), 1) := by decide +kernel
theorem d_Mo_keep_7 : decode c_Mo_keep 7 = .ok (.if_icmp .ne 15, 3) := by decide +kernel
theorem d_Mo_keep_10 : decode c_Mo_keep 10 = .ok (.aload_n 0, 1) := by decide +kernel
theorem d_Mo_keep_11 : decode c_Mo_keep 11 = .ok (.getfield 325, 3) := by decide +kernel
theorem d_Mo_keep_14 : decode c_Mo_keep 14 = .ok (.bipush 12, 2) := by decide +kernel
theorem d_Mo_keep_16 : decode c_Mo_keep 16 = .ok (.if_icmp .ne 6, 3) := by decide +kernel
theorem d_Mo_keep_19 : decode c_Mo_keep 19 = .ok (.bipush (-4), 2) := by decide +kernel
theorem d_Mo_keep_21 : decode c_Mo_keep 21 = .ok (.ireturn, 1) := by decide +kernel
theorem d_Mo_keep_22 : decode c_Mo_keep 22 = .ok (.iload_n 1, 1) := by decide +kernel
theorem d_Mo_keep_23 : decode c_Mo_keep 23 = .ok (.iconst (-1), 1) := by decide +kernel
theorem d_Mo_keep_24 : decode c_Mo_keep 24 = .ok (.if_icmp .ne 56, 3) := by decide +kernel
theorem d_Mo_keep_27 : decode c_Mo_keep 27 = .ok (.aload_n 0, 1) := by decide +kernel
theorem d_Mo_keep_28 : decode c_Mo_keep 28 = .ok (.getfield 325, 3) := by decide +kernel
theorem d_Mo_keep_31 : decode c_Mo_keep 31 = .ok (.istore_n 1, 1) := by decide +kernel
theorem d_Mo_keep_32 : decode c_Mo_keep 32 = .ok (.aload_n 0, 1) := by decide +kernel
theorem d_Mo_keep_33 : decode c_Mo_keep 33 = .ok (.dup, 1) := by decide +kernel
theorem d_Mo_keep_34 : decode c_Mo_keep 34 = .ok (.getfield 325, 3) := by decide +kernel
theorem d_Mo_keep_37 : decode c_Mo_keep 37 = .ok (.iconst 1, 1) := by decide +kernel
theorem d_Mo_keep_38 : decode c_Mo_keep 38 = .ok (.iadd, 1) := by decide +kernel
theorem d_Mo_keep_39 : decode c_Mo_keep 39 = .ok (.putfield 325, 3) := by decide +kernel
theorem d_Mo_keep_42 : decode c_Mo_keep 42 = .ok (.aload_n 0, 1) := by decide +kernel
theorem d_Mo_keep_43 : decode c_Mo_keep 43 = .ok (.getfield 77, 3) := by decide +kernel
theorem d_Mo_keep_46 : decode c_Mo_keep 46 = .ok (.iload_n 1, 1) := by decide +kernel
theorem d_Mo_keep_47 : decode c_Mo_keep 47 = .ok (.iconst 0, 1) := by decide +kernel
theorem d_Mo_keep_48 : decode c_Mo_keep 48 = .ok (.iastore, 1) := by decide +kernel
theorem d_Mo_keep_49 : decode c_Mo_keep 49 = .ok (.iconst 0, 1) := by decide +kernel
theorem d_Mo_keep_50 : decode c_Mo_keep 50 = .ok (.istore_n 2, 1) := by decide +kernel
theorem d_Mo_keep_51 : decode c_Mo_keep 51 = .ok (.iload_n 2, 1) := by decide +kernel
theorem d_Mo_keep_52 : decode c_Mo_keep 52 = .ok (.bipush 14, 2) := by decide +kernel
theorem d_Mo_keep_54 : decode c_Mo_keep 54 = .ok (.if_icmp .ge 26, 3) := by decide +kernel
theorem d_Mo_keep_57 : decode c_Mo_keep 57 = .ok (.aload_n 0, 1) := by decide +kernel
theorem d_Mo_keep_58 : decode c_Mo_keep 58 = .ok (.getfield 74, 3) := by decide +kernel
theorem d_Mo_keep_61 : decode c_Mo_keep 61 = .ok (.bipush 14, 2) := by decide +kernel
theorem d_Mo_keep_63 : decode c_Mo_keep 63 = .ok (.iload_n 1, 1) := by decide +kernel
theorem d_Mo_keep_64 : decode c_Mo_keep 64 = .ok (.imul, 1) := by decide +kernel
theorem d_Mo_keep_65 : decode c_Mo_keep 65 = .ok (.iload_n 2, 1) := by decide +kernel
theorem d_Mo_keep_66 : decode c_Mo_keep 66 = .ok (.iadd, 1) := by decide +kernel
theorem d_Mo_keep_67 : decode c_Mo_keep 67 = .ok (.aload_n 0, 1) := by decide +kernel
theorem d_Mo_keep_68 : decode c_Mo_keep 68 = .ok (.getfield 80, 3) := by decide +kernel
theorem d_Mo_keep_71 : decode c_Mo_keep 71 = .ok (.iload_n 2, 1) := by decide +kernel
theorem d_Mo_keep_72 : decode c_Mo_keep 72 = .ok (.iaload, 1) := by decide +kernel
theorem d_Mo_keep_73 : decode c_Mo_keep 73 = .ok (.iastore, 1) := by decide +kernel
theorem d_Mo_keep_74 : decode c_Mo_keep 74 = .ok (.iinc 2 1, 3) := by decide +kernel
theorem d_Mo_keep_77 : decode c_Mo_keep 77 = .ok (.goto (-26), 3) := by decide +kernel
theorem d_Mo_keep_80 : decode c_Mo_keep 80 = .ok (.aload_n 0, 1) := by decide +kernel
theorem d_Mo_keep_81 : decode c_Mo_keep 81 = .ok (.getfield 77, 3) := by decide +kernel
theorem d_Mo_keep_84 : decode c_Mo_keep 84 = .ok (.iload_n 1, 1) := by decide +kernel
theorem d_Mo_keep_85 : decode c_Mo_keep 85 = .ok (.dup2, 1) := by decide +kernel
theorem d_Mo_keep_86 : decode c_Mo_keep 86 = .ok (.iaload, 1) := by decide +kernel
theorem d_Mo_keep_87 : decode c_Mo_keep 87 = .ok (.iconst 1, 1) := by decide +kernel
theorem d_Mo_keep_88 : decode c_Mo_keep 88 = .ok (.iadd, 1) := by decide +kernel
theorem d_Mo_keep_89 : decode c_Mo_keep 89 = .ok (.iastore, 1) := by decide +kernel
theorem d_Mo_keep_90 : decode c_Mo_keep 90 = .ok (.iload_n 1, 1) := by decide +kernel
theorem d_Mo_keep_91 : decode c_Mo_keep 91 = .ok (.ireturn, 1) := by decide +kernel
set_option maxRecDepth 20000 in
theorem w_Mo_keep_80 {X : HX} {ad : Nat → Nat} {I : HI} {J : HJ} {N : HN} {r : HI × HJ × Int32} {a0 : Nat} {x1 : Int32} (C : Cx X c_Mo_keep RX11 3 (some .int) rm_Mo_keep) (ha0 : gk Tm nM a0 (0, 11))
    (h : Mo_keep_80 N a0 I J x1 = some r) : G Tm X ad nM 0 0 I J N (gE X Tm ad nM (r.1, r.2.1, N, fun _ => some (.int r.2.2))) 80 3 [(0, .ref (ad a0)), (1, .int x1)] [] := by
  refine g_aload_n (pc := 80) C d_Mo_keep_80 rfl 0 rfl ?_
  obtain ⟨b1, hnb1, hb1, h⟩ := o_ra h
  refine g_get (pc := 81) (k := 30) (v := va_rf ((N a0 30).map ad)) C gcX11 inX11 (by decide) fl_Mo_77 ha0 rfl d_Mo_keep_81 ?_
  refine g_top (g_rf hnb1) ?_
  refine g_iload_n (pc := 84) C d_Mo_keep_84 rfl 1 rfl ?_
  refine g_dup2 (pc := 85) C d_Mo_keep_85 rfl rfl ?_
  obtain ⟨hi2, h⟩ := o_gd h
  refine g_iald (pc := 86) C hb1 hi2 d_Mo_keep_86 ?_
  refine g_iconst (pc := 87) C (1 : Int32) d_Mo_keep_87 (by decide) ?_
  refine g_iadd (pc := 88) C d_Mo_keep_88 ?_
  obtain ⟨hi3, h⟩ := o_gd h
  refine g_iast (pc := 89) C hb1 hi3 d_Mo_keep_89 ?_
  obtain ⟨I4, eI4, h⟩ := o_bd h
  rw [← eI4]
  refine g_iload_n (pc := 90) C d_Mo_keep_90 rfl 1 rfl ?_
  obtain rfl := o_ret h
  exact g_iret (pc := 91) C d_Mo_keep_91
set_option maxRecDepth 20000 in
theorem w_Mo_keep_51b {X : HX} {ad : Nat → Nat} {I : HI} {J : HJ} {N : HN} {r : HI × HJ × Int32} {k51 : HI → HJ → Int32 → Int32 → Option (HI × HJ × Int32)} {a0 : Nat} {x1 : Int32} {x2 : Int32} (C : Cx X c_Mo_keep RX11 3 (some .int) rm_Mo_keep) (ha0 : gk Tm nM a0 (0, 11))
    (hk51 : ∀ (I : HI) (J : HJ) (x1 : Int32) (x2 : Int32), k51 I J x1 x2 = some r → G Tm X ad nM 0 0 I J N (gE X Tm ad nM (r.1, r.2.1, N, fun _ => some (.int r.2.2))) 51 3 [(0, .ref (ad a0)), (1, .int x1), (2, .int x2)] [])
    (h : Mo_keep_51b N a0 k51 I J x1 x2 = some r) : G Tm X ad nM 0 0 I J N (gE X Tm ad nM (r.1, r.2.1, N, fun _ => some (.int r.2.2))) 51 3 [(0, .ref (ad a0)), (1, .int x1), (2, .int x2)] [] := by
  refine g_iload_n (pc := 51) C d_Mo_keep_51 rfl 2 rfl ?_
  refine g_bipush (pc := 52) C (14 : Int32) d_Mo_keep_52 (by decide) ?_
  refine g_icmp_ge (pc := 54) C 80 d_Mo_keep_54 rfl (fun e1 => ?_) (fun e1 => ?_)
  · have h := o_pos e1 h
    refine g_lv [0, 1] rfl ?_
    exact w_Mo_keep_80 C ha0 h
  · have h := o_neg e1 h
    refine g_aload_n (pc := 57) C d_Mo_keep_57 rfl 0 rfl ?_
    obtain ⟨b2, hnb2, hb2, h⟩ := o_ra h
    refine g_get (pc := 58) (k := 29) (v := va_rf ((N a0 29).map ad)) C gcX11 inX11 (by decide) fl_Mo_74 ha0 rfl d_Mo_keep_58 ?_
    refine g_top (g_rf hnb2) ?_
    refine g_bipush (pc := 61) C (14 : Int32) d_Mo_keep_61 (by decide) ?_
    refine g_iload_n (pc := 63) C d_Mo_keep_63 rfl 1 rfl ?_
    refine g_imul (pc := 64) C d_Mo_keep_64 ?_
    refine g_iload_n (pc := 65) C d_Mo_keep_65 rfl 2 rfl ?_
    refine g_iadd (pc := 66) C d_Mo_keep_66 ?_
    refine g_aload_n (pc := 67) C d_Mo_keep_67 rfl 0 rfl ?_
    obtain ⟨b3, hnb3, hb3, h⟩ := o_ra h
    refine g_get (pc := 68) (k := 32) (v := va_rf ((N a0 32).map ad)) C gcX11 inX11 (by decide) fl_Mo_80 ha0 rfl d_Mo_keep_68 ?_
    refine g_top (g_rf hnb3) ?_
    refine g_iload_n (pc := 71) C d_Mo_keep_71 rfl 2 rfl ?_
    obtain ⟨hi4, h⟩ := o_gd h
    refine g_iald (pc := 72) C hb3 hi4 d_Mo_keep_72 ?_
    obtain ⟨hi5, h⟩ := o_gd h
    refine g_iast (pc := 73) C hb2 hi5 d_Mo_keep_73 ?_
    obtain ⟨I6, eI6, h⟩ := o_bd h
    rw [← eI6]
    refine g_iinc (pc := 74) (q := 2) (lv' := [(2, .int (x2 + 1)), (0, .ref (ad a0)), (1, .int x1)]) C d_Mo_keep_74 rfl rfl (by decide) rfl ?_
    refine g_goto (pc := 77) C 51 d_Mo_keep_77 rfl ?_
    refine g_lv [1, 2, 0] rfl ?_
    exact hk51 _ _ _ _ h
set_option maxRecDepth 20000 in
theorem w_Mo_keep_51 {X : HX} {ad : Nat → Nat} {N : HN} {r : HI × HJ × Int32} {a0 : Nat} (C : Cx X c_Mo_keep RX11 3 (some .int) rm_Mo_keep) (ha0 : gk Tm nM a0 (0, 11)) : ∀ (n : Nat) (I : HI) (J : HJ) (x1 : Int32) (x2 : Int32), Mo_keep_51 N a0 n I J x1 x2 = some r → G Tm X ad nM 0 0 I J N (gE X Tm ad nM (r.1, r.2.1, N, fun _ => some (.int r.2.2))) 51 3 [(0, .ref (ad a0)), (1, .int x1), (2, .int x2)] [] := by
  intro n
  induction n with
  | zero => intro I J x1 x2 h; cases h
  | succ n ih => intro I J x1 x2 h; exact w_Mo_keep_51b C ha0 ih h
set_option maxRecDepth 20000 in
theorem w_Mo_keep_22 {X : HX} {ad : Nat → Nat} {I : HI} {J : HJ} {N : HN} {r : HI × HJ × Int32} {a0 : Nat} {x1 : Int32} (C : Cx X c_Mo_keep RX11 3 (some .int) rm_Mo_keep) (ha0 : gk Tm nM a0 (0, 11))
    (h : Mo_keep_22 N a0 I J x1 = some r) : G Tm X ad nM 0 0 I J N (gE X Tm ad nM (r.1, r.2.1, N, fun _ => some (.int r.2.2))) 22 3 [(0, .ref (ad a0)), (1, .int x1)] [] := by
  refine g_iload_n (pc := 22) C d_Mo_keep_22 rfl 1 rfl ?_
  refine g_iconst (pc := 23) C (-1 : Int32) d_Mo_keep_23 (by decide) ?_
  refine g_icmp_ne (pc := 24) C 80 d_Mo_keep_24 rfl (fun e1 => ?_) (fun e1 => ?_)
  · have h := o_neg e1 h
    refine g_lv [0, 1] rfl ?_
    exact w_Mo_keep_80 C ha0 h
  · have h := o_pos e1 h
    refine g_aload_n (pc := 27) C d_Mo_keep_27 rfl 0 rfl ?_
    refine g_get (pc := 28) (k := 31) (v := .int (I a0 31)) C gcX11 inX11 (by decide) fl_Mo_325 ha0 rfl d_Mo_keep_28 ?_
    obtain ⟨v2, ev2, h⟩ := o_bd h
    refine g_topi ev2 ?_
    refine g_istore_n (pc := 31) (lv' := [(1, .int v2), (0, .ref (ad a0))]) C d_Mo_keep_31 rfl (by decide) rfl ?_
    refine g_aload_n (pc := 32) C d_Mo_keep_32 rfl 1 rfl ?_
    refine g_dup (pc := 33) C d_Mo_keep_33 rfl ?_
    refine g_get (pc := 34) (k := 31) (v := .int (I a0 31)) C gcX11 inX11 (by decide) fl_Mo_325 ha0 rfl d_Mo_keep_34 ?_
    refine g_iconst (pc := 37) C (1 : Int32) d_Mo_keep_37 (by decide) ?_
    refine g_iadd (pc := 38) C d_Mo_keep_38 ?_
    refine g_put (pc := 39) (I' := up2 I a0 31 ((I a0 31) + (1 : Int32))) (J' := J) (N' := N) (k := 31) C gcX11 inX11 tyX11_ok nmX11 (by decide) fl_Mo_325 rfl ha0 (tyX11_ok 31 (by decide)) rfl rfl (Nat.le_of_ble_eq_true rfl) gs_11_31 (fun b hb => up2_of hb) (fun _ _ => rfl) (fun _ _ => rfl) d_Mo_keep_39 ?_
    obtain ⟨I3, eI3, h⟩ := o_bd h
    rw [← eI3]
    refine g_aload_n (pc := 42) C d_Mo_keep_42 rfl 1 rfl ?_
    obtain ⟨b4, hnb4, hb4, h⟩ := o_ra h
    refine g_get (pc := 43) (k := 30) (v := va_rf ((N a0 30).map ad)) C gcX11 inX11 (by decide) fl_Mo_77 ha0 rfl d_Mo_keep_43 ?_
    refine g_top (g_rf hnb4) ?_
    refine g_iload_n (pc := 46) C d_Mo_keep_46 rfl 0 rfl ?_
    refine g_iconst (pc := 47) C (0 : Int32) d_Mo_keep_47 (by decide) ?_
    obtain ⟨hi5, h⟩ := o_gd h
    refine g_iast (pc := 48) C hb4 hi5 d_Mo_keep_48 ?_
    obtain ⟨I6, eI6, h⟩ := o_bd h
    rw [← eI6]
    refine g_iconst (pc := 49) C (0 : Int32) d_Mo_keep_49 (by decide) ?_
    refine g_istore_n (pc := 50) (lv' := [(2, .int (0 : Int32)), (1, .int v2), (0, .ref (ad a0))]) C d_Mo_keep_50 rfl (by decide) rfl ?_
    refine g_lv [2, 1, 0] rfl ?_
    exact w_Mo_keep_51 C ha0 _ _ _ _ _ h
set_option maxRecDepth 20000 in
theorem w_Mo_keep_0 {X : HX} {ad : Nat → Nat} {I : HI} {J : HJ} {N : HN} {r : HI × HJ × Int32} {a0 : Nat} (C : Cx X c_Mo_keep RX11 3 (some .int) rm_Mo_keep) (ha0 : gk Tm nM a0 (0, 11))
    (h : Mo_keep_0 N a0 I J = some r) : G Tm X ad nM 0 0 I J N (gE X Tm ad nM (r.1, r.2.1, N, fun _ => some (.int r.2.2))) 0 3 [(0, .ref (ad a0))] [] := by
  refine g_aload_n (pc := 0) C d_Mo_keep_0 rfl 0 rfl ?_
  obtain ⟨I1, J2, r3, hc4, h⟩ := o_bn3 h
  refine g_V (pc := 1) (rest := []) C (k_Mo_found (xl X) ha0 hc4) sm_Mo_found ml_Mo_328 im_Mo_found se_Mo_found gcX11 rfl ha0 ⟨rfl, rfl, Nat.le_of_ble_eq_true rfl, Nat.le_of_ble_eq_true rfl⟩ ⟨Nat.zero_le _, Nat.zero_le _⟩ rfl rfl (Nat.le_of_ble_eq_true rfl) d_Mo_keep_1 [.int r3] rfl ?_
  refine g_istore_n (pc := 4) (lv' := [(1, .int r3), (0, .ref (ad a0))]) C d_Mo_keep_4 rfl (by decide) rfl ?_
  refine g_iload_n (pc := 5) C d_Mo_keep_5 rfl 0 rfl ?_
  refine g_iconst (pc := 6) C (-1 : Int32) d_Mo_keep_6 (by decide) ?_
  refine g_icmp_ne (pc := 7) C 22 d_Mo_keep_7 rfl (fun e5 => ?_) (fun e5 => ?_)
  · have h := o_neg e5 h
    refine g_lv [1, 0] rfl ?_
    exact w_Mo_keep_22 C ha0 h
  · have h := o_pos e5 h
    refine g_aload_n (pc := 10) C d_Mo_keep_10 rfl 1 rfl ?_
    refine g_get (pc := 11) (k := 31) (v := .int (I1 a0 31)) C gcX11 inX11 (by decide) fl_Mo_325 ha0 rfl d_Mo_keep_11 ?_
    refine g_bipush (pc := 14) C (12 : Int32) d_Mo_keep_14 (by decide) ?_
    refine g_icmp_ne (pc := 16) C 22 d_Mo_keep_16 rfl (fun e6 => ?_) (fun e6 => ?_)
    · have h := o_neg e6 h
      refine g_lv [1, 0] rfl ?_
      exact w_Mo_keep_22 C ha0 h
    · have h := o_pos e6 h
      refine g_bipush (pc := 19) C (-4 : Int32) d_Mo_keep_19 (by decide) ?_
      obtain rfl := o_ret h
      exact g_iret (pc := 21) C d_Mo_keep_21
set_option maxRecDepth 20000 in
theorem k_Mo_keep (l : Launch) {I : HI} {J : HJ} {N : HN} {a0 : Nat} {r : HI × HJ × Int32} (ha0 : gk Tm nM a0 (0, 11)) (h : Mo_keep N a0 I J = some r) : gM l y_Mo_keep c_Mo_keep 3 (some .int) rm_Mo_keep Tm nM I J N (fun ad => [.ref (ad a0)]) (r.1, r.2.1, N, fun _ => some (.int r.2.2)) :=
  g_meth (lv := fun ad => [(0, .ref (ad a0))]) (by decide) (fun _ => Nat.le_of_ble_eq_true rfl) (fun _ => rfl) (fun X ad C => g_lv [0] rfl (w_Mo_keep_0 C ha0 h))
theorem d_Mo_find_0 : decode c_Mo_find 0 = .ok (.aload_n 0, 1) := by decide +kernel
theorem d_Mo_find_1 : decode c_Mo_find 1 = .ok (.invokevirtual 328, 3) := by decide +kernel
theorem d_Mo_find_4 : decode c_Mo_find 4 = .ok (.ireturn, 1) := by decide +kernel
set_option maxRecDepth 20000 in
theorem w_Mo_find_0 {X : HX} {ad : Nat → Nat} {I : HI} {J : HJ} {N : HN} {r : HI × HJ × Int32} {a0 : Nat} (C : Cx X c_Mo_find RX11 1 (some .int) rm_Mo_find) (ha0 : gk Tm nM a0 (0, 11))
    (h : Mo_find_0 N a0 I J = some r) : G Tm X ad nM 0 0 I J N (gE X Tm ad nM (r.1, r.2.1, N, fun _ => some (.int r.2.2))) 0 1 [(0, .ref (ad a0))] [] := by
  refine g_aload_n (pc := 0) C d_Mo_find_0 rfl 0 rfl ?_
  obtain ⟨I1, J2, r3, hc4, h⟩ := o_bn3 h
  refine g_V (pc := 1) (rest := []) C (k_Mo_found (xl X) ha0 hc4) sm_Mo_found ml_Mo_328 im_Mo_found se_Mo_found gcX11 rfl ha0 ⟨rfl, rfl, Nat.le_of_ble_eq_true rfl, Nat.le_of_ble_eq_true rfl⟩ ⟨Nat.zero_le _, Nat.zero_le _⟩ rfl rfl (Nat.le_of_ble_eq_true rfl) d_Mo_find_1 [.int r3] rfl ?_
  obtain rfl := o_ret h
  exact g_iret (pc := 4) C d_Mo_find_4
set_option maxRecDepth 20000 in
theorem k_Mo_find (l : Launch) {I : HI} {J : HJ} {N : HN} {a0 : Nat} {r : HI × HJ × Int32} (ha0 : gk Tm nM a0 (0, 11)) (h : Mo_find N a0 I J = some r) : gM l y_Mo_find c_Mo_find 1 (some .int) rm_Mo_find Tm nM I J N (fun ad => [.ref (ad a0)]) (r.1, r.2.1, N, fun _ => some (.int r.2.2)) :=
  g_meth (lv := fun ad => [(0, .ref (ad a0))]) (by decide) (fun _ => Nat.le_of_ble_eq_true rfl) (fun _ => rfl) (fun X ad C => g_lv [0] rfl (w_Mo_find_0 C ha0 h))
theorem d_Mo_keptBy_0 : decode c_Mo_keptBy 0 = .ok (.iload_n 2, 1) := by decide +kernel
theorem d_Mo_keptBy_1 : decode c_Mo_keptBy 1 = .ok (.ifCond .ne 12, 3) := by decide +kernel
theorem d_Mo_keptBy_4 : decode c_Mo_keptBy 4 = .ok (.aload_n 0, 1) := by decide +kernel
theorem d_Mo_keptBy_5 : decode c_Mo_keptBy 5 = .ok (.getfield 77, 3) := by decide +kernel
theorem d_Mo_keptBy_8 : decode c_Mo_keptBy 8 = .ok (.iload_n 1, 1) := by decide +kernel
theorem d_Mo_keptBy_9 : decode c_Mo_keptBy 9 = .ok (.iaload, 1) := by decide +kernel
theorem d_Mo_keptBy_10 : decode c_Mo_keptBy 10 = .ok (.goto 16, 3) := by decide +kernel
theorem d_Mo_keptBy_13 : decode c_Mo_keptBy 13 = .ok (.aload_n 0, 1) := by decide +kernel
theorem d_Mo_keptBy_14 : decode c_Mo_keptBy 14 = .ok (.getfield 74, 3) := by decide +kernel
theorem d_Mo_keptBy_17 : decode c_Mo_keptBy 17 = .ok (.bipush 14, 2) := by decide +kernel
theorem d_Mo_keptBy_19 : decode c_Mo_keptBy 19 = .ok (.iload_n 1, 1) := by decide +kernel
theorem d_Mo_keptBy_20 : decode c_Mo_keptBy 20 = .ok (.imul, 1) := by decide +kernel
theorem d_Mo_keptBy_21 : decode c_Mo_keptBy 21 = .ok (.iload_n 2, 1) := by decide +kernel
theorem d_Mo_keptBy_22 : decode c_Mo_keptBy 22 = .ok (.iadd, 1) := by decide +kernel
theorem d_Mo_keptBy_23 : decode c_Mo_keptBy 23 = .ok (.iconst 1, 1) := by decide +kernel
theorem d_Mo_keptBy_24 : decode c_Mo_keptBy 24 = .ok (.isub, 1) := by decide +kernel
theorem d_Mo_keptBy_25 : decode c_Mo_keptBy 25 = .ok (.iaload, 1) := by decide +kernel
theorem d_Mo_keptBy_26 : decode c_Mo_keptBy 26 = .ok (.ireturn, 1) := by decide +kernel
set_option maxRecDepth 20000 in
theorem w_Mo_keptBy_0 {X : HX} {ad : Nat → Nat} {I : HI} {J : HJ} {N : HN} {r : Int32} {a0 : Nat} {p1 : Int32} {p2 : Int32} (C : Cx X c_Mo_keptBy RX11 3 (some .int) rm_Mo_keptBy) (ha0 : gk Tm nM a0 (0, 11))
    (h : Mo_keptBy_0 I N a0 p1 p2 = some r) : G Tm X ad nM 0 0 I J N (gE X Tm ad nM (I, J, N, fun _ => some (.int r))) 0 3 [(0, .ref (ad a0)), (1, .int p1), (2, .int p2)] [] := by
  refine g_iload_n (pc := 0) C d_Mo_keptBy_0 rfl 2 rfl ?_
  refine g_if_ne (pc := 1) C 13 d_Mo_keptBy_1 rfl (fun e1 => ?_) (fun e1 => ?_)
  · have h := o_neg e1 h
    refine g_aload_n (pc := 13) C d_Mo_keptBy_13 rfl 0 rfl ?_
    obtain ⟨b2, hnb2, hb2, h⟩ := o_ra h
    refine g_get (pc := 14) (k := 29) (v := va_rf ((N a0 29).map ad)) C gcX11 inX11 (by decide) fl_Mo_74 ha0 rfl d_Mo_keptBy_14 ?_
    refine g_top (g_rf hnb2) ?_
    refine g_bipush (pc := 17) C (14 : Int32) d_Mo_keptBy_17 (by decide) ?_
    refine g_iload_n (pc := 19) C d_Mo_keptBy_19 rfl 1 rfl ?_
    refine g_imul (pc := 20) C d_Mo_keptBy_20 ?_
    refine g_iload_n (pc := 21) C d_Mo_keptBy_21 rfl 2 rfl ?_
    refine g_iadd (pc := 22) C d_Mo_keptBy_22 ?_
    refine g_iconst (pc := 23) C (1 : Int32) d_Mo_keptBy_23 (by decide) ?_
    refine g_isub (pc := 24) C d_Mo_keptBy_24 ?_
    obtain ⟨hi3, h⟩ := o_gd h
    refine g_iald (pc := 25) C hb2 hi3 d_Mo_keptBy_25 ?_
    obtain rfl := o_ret h
    exact g_iret (pc := 26) C d_Mo_keptBy_26
  · have h := o_pos e1 h
    refine g_aload_n (pc := 4) C d_Mo_keptBy_4 rfl 0 rfl ?_
    obtain ⟨b4, hnb4, hb4, h⟩ := o_ra h
    refine g_get (pc := 5) (k := 30) (v := va_rf ((N a0 30).map ad)) C gcX11 inX11 (by decide) fl_Mo_77 ha0 rfl d_Mo_keptBy_5 ?_
    refine g_top (g_rf hnb4) ?_
    refine g_iload_n (pc := 8) C d_Mo_keptBy_8 rfl 1 rfl ?_
    obtain ⟨hi5, h⟩ := o_gd h
    refine g_iald (pc := 9) C hb4 hi5 d_Mo_keptBy_9 ?_
    refine g_goto (pc := 10) C 26 d_Mo_keptBy_10 rfl ?_
    obtain rfl := o_ret h
    exact g_iret (pc := 26) C d_Mo_keptBy_26
set_option maxRecDepth 20000 in
theorem k_Mo_keptBy (l : Launch) {I : HI} {J : HJ} {N : HN} {a0 : Nat} {p1 : Int32} {p2 : Int32} {r : Int32} (ha0 : gk Tm nM a0 (0, 11)) (h : Mo_keptBy I N a0 p1 p2 = some r) : gM l y_Mo_keptBy c_Mo_keptBy 3 (some .int) rm_Mo_keptBy Tm nM I J N (fun ad => [.ref (ad a0), .int p1, .int p2]) (I, J, N, fun _ => some (.int r)) :=
  g_meth (lv := fun ad => [(0, .ref (ad a0)), (1, .int p1), (2, .int p2)]) (by decide) (fun _ => Nat.le_of_ble_eq_true rfl) (fun _ => rfl) (fun X ad C => g_lv [0, 1, 2] rfl (w_Mo_keptBy_0 C ha0 h))
theorem d_Mo_kept_0 : decode c_Mo_kept 0 = .ok (.iload_n 1, 1) := by decide +kernel
theorem d_Mo_kept_1 : decode c_Mo_kept 1 = .ok (.i2l, 1) := by decide +kernel
theorem d_Mo_kept_2 : decode c_Mo_kept 2 = .ok (.lconst 0, 1) := by decide +kernel
theorem d_Mo_kept_3 : decode c_Mo_kept 3 = .ok (.aload_n 0, 1) := by decide +kernel
theorem d_Mo_kept_4 : decode c_Mo_kept 4 = .ok (.getfield 325, 3) := by decide +kernel
theorem d_Mo_kept_7 : decode c_Mo_kept 7 = .ok (.iconst 1, 1) := by decide +kernel
theorem d_Mo_kept_8 : decode c_Mo_kept 8 = .ok (.isub, 1) := by decide +kernel
theorem d_Mo_kept_9 : decode c_Mo_kept 9 = .ok (.i2l, 1) := by decide +kernel
theorem d_Mo_kept_10 : decode c_Mo_kept 10 = .ok (.invokestatic 83, 3) := by decide +kernel
theorem d_Mo_kept_13 : decode c_Mo_kept 13 = .ok (.ifCond .eq 24, 3) := by decide +kernel
theorem d_Mo_kept_16 : decode c_Mo_kept 16 = .ok (.iload_n 2, 1) := by decide +kernel
theorem d_Mo_kept_17 : decode c_Mo_kept 17 = .ok (.i2l, 1) := by decide +kernel
theorem d_Mo_kept_18 : decode c_Mo_kept 18 = .ok (.lconst 0, 1) := by decide +kernel
theorem d_Mo_kept_19 : decode c_Mo_kept 19 = .ok (.ldc2_w 134, 3) := by decide +kernel
theorem d_Mo_kept_22 : decode c_Mo_kept 22 = .ok (.invokestatic 83, 3) := by decide +kernel
theorem d_Mo_kept_25 : decode c_Mo_kept 25 = .ok (.ifCond .eq 12, 3) := by decide +kernel
theorem d_Mo_kept_28 : decode c_Mo_kept 28 = .ok (.aload_n 0, 1) := by decide +kernel
theorem d_Mo_kept_29 : decode c_Mo_kept 29 = .ok (.iload_n 1, 1) := by decide +kernel
theorem d_Mo_kept_30 : decode c_Mo_kept 30 = .ok (.iload_n 2, 1) := by decide +kernel
theorem d_Mo_kept_31 : decode c_Mo_kept 31 = .ok (.invokevirtual 331, 3) := by decide +kernel
theorem d_Mo_kept_34 : decode c_Mo_kept 34 = .ok (.goto 5, 3) := by decide +kernel
theorem d_Mo_kept_37 : decode c_Mo_kept 37 = .ok (.ldc 120, 2) := by decide +kernel
theorem d_Mo_kept_39 : decode c_Mo_kept 39 = .ok (.ireturn, 1) := by decide +kernel
set_option maxRecDepth 20000 in
theorem w_Mo_kept_0 {X : HX} {ad : Nat → Nat} {I : HI} {J : HJ} {N : HN} {r : Int32} {a0 : Nat} {p1 : Int32} {p2 : Int32} (C : Cx X c_Mo_kept RX11 3 (some .int) rm_Mo_kept) (ha0 : gk Tm nM a0 (0, 11))
    (h : Mo_kept_0 I N a0 p1 p2 = some r) : G Tm X ad nM 0 0 I J N (gE X Tm ad nM (I, J, N, fun _ => some (.int r))) 0 3 [(0, .ref (ad a0)), (1, .int p1), (2, .int p2)] [] := by
  refine g_iload_n (pc := 0) C d_Mo_kept_0 rfl 1 rfl ?_
  refine g_i2l (pc := 1) C d_Mo_kept_1 ?_
  refine g_lconst (pc := 2) C (0 : Int64) d_Mo_kept_2 (by decide) ?_
  refine g_aload_n (pc := 3) C d_Mo_kept_3 rfl 0 rfl ?_
  refine g_get (pc := 4) (k := 31) (v := .int (I a0 31)) C gcX11 inX11 (by decide) fl_Mo_325 ha0 rfl d_Mo_kept_4 ?_
  refine g_iconst (pc := 7) C (1 : Int32) d_Mo_kept_7 (by decide) ?_
  refine g_isub (pc := 8) C d_Mo_kept_8 ?_
  refine g_i2l (pc := 9) C d_Mo_kept_9 ?_
  obtain ⟨r1, hc2, h⟩ := o_bn1 h
  refine g_S (pc := 10) (rest := []) C (k_Mo_in (xl X)  hc2) sm_Mo_in ml_Mo_83 st_Mo_in ⟨rfl, rfl, Nat.le_of_ble_eq_true rfl, Nat.le_of_ble_eq_true rfl⟩ ⟨Nat.zero_le _, Nat.zero_le _⟩ rfl rfl (Nat.le_of_ble_eq_true rfl) d_Mo_kept_10 [.int r1] rfl ?_
  refine g_if_eq (pc := 13) C 37 d_Mo_kept_13 rfl (fun e3 => ?_) (fun e3 => ?_)
  · have h := o_pos e3 h
    refine g_ldc (pc := 37) C kc_Mo_120 d_Mo_kept_37 ?_
    obtain rfl := o_ret h
    exact g_iret (pc := 39) C d_Mo_kept_39
  · have h := o_neg e3 h
    refine g_iload_n (pc := 16) C d_Mo_kept_16 rfl 2 rfl ?_
    refine g_i2l (pc := 17) C d_Mo_kept_17 ?_
    refine g_lconst (pc := 18) C (0 : Int64) d_Mo_kept_18 (by decide) ?_
    refine g_ldc2 (pc := 19) C kc_Mo_134 d_Mo_kept_19 ?_
    obtain ⟨r4, hc5, h⟩ := o_bn1 h
    refine g_S (pc := 22) (rest := []) C (k_Mo_in (xl X)  hc5) sm_Mo_in ml_Mo_83 st_Mo_in ⟨rfl, rfl, Nat.le_of_ble_eq_true rfl, Nat.le_of_ble_eq_true rfl⟩ ⟨Nat.zero_le _, Nat.zero_le _⟩ rfl rfl (Nat.le_of_ble_eq_true rfl) d_Mo_kept_22 [.int r4] rfl ?_
    refine g_if_eq (pc := 25) C 37 d_Mo_kept_25 rfl (fun e6 => ?_) (fun e6 => ?_)
    · have h := o_pos e6 h
      refine g_ldc (pc := 37) C kc_Mo_120 d_Mo_kept_37 ?_
      obtain rfl := o_ret h
      exact g_iret (pc := 39) C d_Mo_kept_39
    · have h := o_neg e6 h
      refine g_aload_n (pc := 28) C d_Mo_kept_28 rfl 0 rfl ?_
      refine g_iload_n (pc := 29) C d_Mo_kept_29 rfl 1 rfl ?_
      refine g_iload_n (pc := 30) C d_Mo_kept_30 rfl 2 rfl ?_
      obtain ⟨r7, hc8, h⟩ := o_bn1 h
      refine g_V (pc := 31) (rest := []) C (k_Mo_keptBy (xl X) ha0 hc8) sm_Mo_keptBy ml_Mo_331 im_Mo_keptBy se_Mo_keptBy gcX11 rfl ha0 ⟨rfl, rfl, Nat.le_of_ble_eq_true rfl, Nat.le_of_ble_eq_true rfl⟩ ⟨Nat.zero_le _, Nat.zero_le _⟩ rfl rfl (Nat.le_of_ble_eq_true rfl) d_Mo_kept_31 [.int r7] rfl ?_
      refine g_goto (pc := 34) C 39 d_Mo_kept_34 rfl ?_
      obtain rfl := o_ret h
      exact g_iret (pc := 39) C d_Mo_kept_39
set_option maxRecDepth 20000 in
theorem k_Mo_kept (l : Launch) {I : HI} {J : HJ} {N : HN} {a0 : Nat} {p1 : Int32} {p2 : Int32} {r : Int32} (ha0 : gk Tm nM a0 (0, 11)) (h : Mo_kept I N a0 p1 p2 = some r) : gM l y_Mo_kept c_Mo_kept 3 (some .int) rm_Mo_kept Tm nM I J N (fun ad => [.ref (ad a0), .int p1, .int p2]) (I, J, N, fun _ => some (.int r)) :=
  g_meth (lv := fun ad => [(0, .ref (ad a0)), (1, .int p1), (2, .int p2)]) (by decide) (fun _ => Nat.le_of_ble_eq_true rfl) (fun _ => rfl) (fun X ad C => g_lv [0, 1, 2] rfl (w_Mo_kept_0 C ha0 h))
theorem d_Mo_recall_0 : decode c_Mo_recall 0 = .ok (.iload_n 1, 1) := by decide +kernel
theorem d_Mo_recall_1 : decode c_Mo_recall 1 = .ok (.i2l, 1) := by decide +kernel
theorem d_Mo_recall_2 : decode c_Mo_recall 2 = .ok (.lconst 0, 1) := by decide +kernel
theorem d_Mo_recall_3 : decode c_Mo_recall 3 = .ok (.aload_n 0, 1) := by decide +kernel
theorem d_Mo_recall_4 : decode c_Mo_recall 4 = .ok (.getfield 325, 3) := by decide +kernel
theorem d_Mo_recall_7 : decode c_Mo_recall 7 = .ok (.iconst 1, 1) := by decide +kernel
theorem d_Mo_recall_8 : decode c_Mo_recall 8 = .ok (.isub, 1) := by decide +kernel
theorem d_Mo_recall_9 : decode c_Mo_recall 9 = .ok (.i2l, 1) := by decide +kernel
theorem d_Mo_recall_10 : decode c_Mo_recall 10 = .ok (.invokestatic 83, 3) := by decide +kernel
theorem d_Mo_recall_13 : decode c_Mo_recall 13 = .ok (.ifCond .ne 6, 3) := by decide +kernel
theorem d_Mo_recall_16 : decode c_Mo_recall 16 = .ok (.bipush (-2), 2) := by decide +kernel
theorem d_Mo_recall_18 : decode c_Mo_recall 18 = .ok (.ireturn, 1) := by decide +kernel
theorem d_Mo_recall_19 : decode c_Mo_recall 19 = .ok (.iconst 0, 1) := by decide +kernel
theorem d_Mo_recall_20 : decode c_Mo_recall 20 = .ok (.istore_n 2, 1) := by decide +kernel
theorem d_Mo_recall_21 : decode c_Mo_recall 21 = .ok (.iload_n 2, 1) := by decide +kernel
theorem d_Mo_recall_22 : decode c_Mo_recall 22 = .ok (.bipush 14, 2) := by decide +kernel
theorem d_Mo_recall_24 : decode c_Mo_recall 24 = .ok (.if_icmp .ge 26, 3) := by decide +kernel
theorem d_Mo_recall_27 : decode c_Mo_recall 27 = .ok (.aload_n 0, 1) := by decide +kernel
theorem d_Mo_recall_28 : decode c_Mo_recall 28 = .ok (.getfield 20, 3) := by decide +kernel
theorem d_Mo_recall_31 : decode c_Mo_recall 31 = .ok (.iload_n 2, 1) := by decide +kernel
theorem d_Mo_recall_32 : decode c_Mo_recall 32 = .ok (.aload_n 0, 1) := by decide +kernel
theorem d_Mo_recall_33 : decode c_Mo_recall 33 = .ok (.getfield 74, 3) := by decide +kernel
theorem d_Mo_recall_36 : decode c_Mo_recall 36 = .ok (.bipush 14, 2) := by decide +kernel
theorem d_Mo_recall_38 : decode c_Mo_recall 38 = .ok (.iload_n 1, 1) := by decide +kernel
theorem d_Mo_recall_39 : decode c_Mo_recall 39 = .ok (.imul, 1) := by decide +kernel
theorem d_Mo_recall_40 : decode c_Mo_recall 40 = .ok (.iload_n 2, 1) := by decide +kernel
theorem d_Mo_recall_41 : decode c_Mo_recall 41 = .ok (.iadd, 1) := by decide +kernel
theorem d_Mo_recall_42 : decode c_Mo_recall 42 = .ok (.iaload, 1) := by decide +kernel
theorem d_Mo_recall_43 : decode c_Mo_recall 43 = .ok (.iastore, 1) := by decide +kernel
theorem d_Mo_recall_44 : decode c_Mo_recall 44 = .ok (.iinc 2 1, 3) := by decide +kernel
theorem d_Mo_recall_47 : decode c_Mo_recall 47 = .ok (.goto (-26), 3) := by decide +kernel
theorem d_Mo_recall_50 : decode c_Mo_recall 50 = .ok (.aload_n 0, 1) := by decide +kernel
theorem d_Mo_recall_51 : decode c_Mo_recall 51 = .ok (.getfield 77, 3) := by decide +kernel
theorem d_Mo_recall_54 : decode c_Mo_recall 54 = .ok (.iload_n 1, 1) := by decide +kernel
theorem d_Mo_recall_55 : decode c_Mo_recall 55 = .ok (.iaload, 1) := by decide +kernel
theorem d_Mo_recall_56 : decode c_Mo_recall 56 = .ok (.ireturn, 1) := by decide +kernel
set_option maxRecDepth 20000 in
theorem w_Mo_recall_21b {X : HX} {ad : Nat → Nat} {I : HI} {J : HJ} {N : HN} {r : HI × Int32} {k21 : HI → Int32 → Option (HI × Int32)} {a0 : Nat} {p1 : Int32} {x2 : Int32} (C : Cx X c_Mo_recall RX11 3 (some .int) rm_Mo_recall) (ha0 : gk Tm nM a0 (0, 11))
    (hk21 : ∀ (I : HI) (x2 : Int32), k21 I x2 = some r → G Tm X ad nM 0 0 I J N (gE X Tm ad nM (r.1, J, N, fun _ => some (.int r.2))) 21 3 [(0, .ref (ad a0)), (1, .int p1), (2, .int x2)] [])
    (h : Mo_recall_21b N a0 p1 k21 I x2 = some r) : G Tm X ad nM 0 0 I J N (gE X Tm ad nM (r.1, J, N, fun _ => some (.int r.2))) 21 3 [(0, .ref (ad a0)), (1, .int p1), (2, .int x2)] [] := by
  refine g_iload_n (pc := 21) C d_Mo_recall_21 rfl 2 rfl ?_
  refine g_bipush (pc := 22) C (14 : Int32) d_Mo_recall_22 (by decide) ?_
  refine g_icmp_ge (pc := 24) C 50 d_Mo_recall_24 rfl (fun e1 => ?_) (fun e1 => ?_)
  · have h := o_pos e1 h
    refine g_aload_n (pc := 50) C d_Mo_recall_50 rfl 0 rfl ?_
    obtain ⟨b2, hnb2, hb2, h⟩ := o_ra h
    refine g_get (pc := 51) (k := 30) (v := va_rf ((N a0 30).map ad)) C gcX11 inX11 (by decide) fl_Mo_77 ha0 rfl d_Mo_recall_51 ?_
    refine g_top (g_rf hnb2) ?_
    refine g_iload_n (pc := 54) C d_Mo_recall_54 rfl 1 rfl ?_
    obtain ⟨hi3, h⟩ := o_gd h
    refine g_iald (pc := 55) C hb2 hi3 d_Mo_recall_55 ?_
    obtain rfl := o_ret h
    exact g_iret (pc := 56) C d_Mo_recall_56
  · have h := o_neg e1 h
    refine g_aload_n (pc := 27) C d_Mo_recall_27 rfl 0 rfl ?_
    obtain ⟨b4, hnb4, hb4, h⟩ := o_ra h
    refine g_get (pc := 28) (k := 4) (v := va_rf ((N a0 4).map ad)) C gcX11 inX11 (by decide) fl_Mo_20 ha0 rfl d_Mo_recall_28 ?_
    refine g_top (g_rf hnb4) ?_
    refine g_iload_n (pc := 31) C d_Mo_recall_31 rfl 2 rfl ?_
    refine g_aload_n (pc := 32) C d_Mo_recall_32 rfl 0 rfl ?_
    obtain ⟨b5, hnb5, hb5, h⟩ := o_ra h
    refine g_get (pc := 33) (k := 29) (v := va_rf ((N a0 29).map ad)) C gcX11 inX11 (by decide) fl_Mo_74 ha0 rfl d_Mo_recall_33 ?_
    refine g_top (g_rf hnb5) ?_
    refine g_bipush (pc := 36) C (14 : Int32) d_Mo_recall_36 (by decide) ?_
    refine g_iload_n (pc := 38) C d_Mo_recall_38 rfl 1 rfl ?_
    refine g_imul (pc := 39) C d_Mo_recall_39 ?_
    refine g_iload_n (pc := 40) C d_Mo_recall_40 rfl 2 rfl ?_
    refine g_iadd (pc := 41) C d_Mo_recall_41 ?_
    obtain ⟨hi6, h⟩ := o_gd h
    refine g_iald (pc := 42) C hb5 hi6 d_Mo_recall_42 ?_
    obtain ⟨hi7, h⟩ := o_gd h
    refine g_iast (pc := 43) C hb4 hi7 d_Mo_recall_43 ?_
    obtain ⟨I8, eI8, h⟩ := o_bd h
    rw [← eI8]
    refine g_iinc (pc := 44) (q := 2) (lv' := [(2, .int (x2 + 1)), (0, .ref (ad a0)), (1, .int p1)]) C d_Mo_recall_44 rfl rfl (by decide) rfl ?_
    refine g_goto (pc := 47) C 21 d_Mo_recall_47 rfl ?_
    refine g_lv [1, 2, 0] rfl ?_
    exact hk21 _ _ h
set_option maxRecDepth 20000 in
theorem w_Mo_recall_21 {X : HX} {ad : Nat → Nat} {J : HJ} {N : HN} {r : HI × Int32} {a0 : Nat} {p1 : Int32} (C : Cx X c_Mo_recall RX11 3 (some .int) rm_Mo_recall) (ha0 : gk Tm nM a0 (0, 11)) : ∀ (n : Nat) (I : HI) (x2 : Int32), Mo_recall_21 N a0 p1 n I x2 = some r → G Tm X ad nM 0 0 I J N (gE X Tm ad nM (r.1, J, N, fun _ => some (.int r.2))) 21 3 [(0, .ref (ad a0)), (1, .int p1), (2, .int x2)] [] := by
  intro n
  induction n with
  | zero => intro I x2 h; cases h
  | succ n ih => intro I x2 h; exact w_Mo_recall_21b C ha0 ih h
set_option maxRecDepth 20000 in
theorem w_Mo_recall_0 {X : HX} {ad : Nat → Nat} {I : HI} {J : HJ} {N : HN} {r : HI × Int32} {a0 : Nat} {p1 : Int32} (C : Cx X c_Mo_recall RX11 3 (some .int) rm_Mo_recall) (ha0 : gk Tm nM a0 (0, 11))
    (h : Mo_recall_0 N a0 p1 I = some r) : G Tm X ad nM 0 0 I J N (gE X Tm ad nM (r.1, J, N, fun _ => some (.int r.2))) 0 3 [(0, .ref (ad a0)), (1, .int p1)] [] := by
  refine g_iload_n (pc := 0) C d_Mo_recall_0 rfl 1 rfl ?_
  refine g_i2l (pc := 1) C d_Mo_recall_1 ?_
  refine g_lconst (pc := 2) C (0 : Int64) d_Mo_recall_2 (by decide) ?_
  refine g_aload_n (pc := 3) C d_Mo_recall_3 rfl 0 rfl ?_
  refine g_get (pc := 4) (k := 31) (v := .int (I a0 31)) C gcX11 inX11 (by decide) fl_Mo_325 ha0 rfl d_Mo_recall_4 ?_
  refine g_iconst (pc := 7) C (1 : Int32) d_Mo_recall_7 (by decide) ?_
  refine g_isub (pc := 8) C d_Mo_recall_8 ?_
  refine g_i2l (pc := 9) C d_Mo_recall_9 ?_
  obtain ⟨r1, hc2, h⟩ := o_bn1 h
  refine g_S (pc := 10) (rest := []) C (k_Mo_in (xl X)  hc2) sm_Mo_in ml_Mo_83 st_Mo_in ⟨rfl, rfl, Nat.le_of_ble_eq_true rfl, Nat.le_of_ble_eq_true rfl⟩ ⟨Nat.zero_le _, Nat.zero_le _⟩ rfl rfl (Nat.le_of_ble_eq_true rfl) d_Mo_recall_10 [.int r1] rfl ?_
  refine g_if_ne (pc := 13) C 19 d_Mo_recall_13 rfl (fun e3 => ?_) (fun e3 => ?_)
  · have h := o_neg e3 h
    refine g_iconst (pc := 19) C (0 : Int32) d_Mo_recall_19 (by decide) ?_
    refine g_istore_n (pc := 20) (lv' := [(2, .int (0 : Int32)), (0, .ref (ad a0)), (1, .int p1)]) C d_Mo_recall_20 rfl (by decide) rfl ?_
    refine g_lv [1, 2, 0] rfl ?_
    exact w_Mo_recall_21 C ha0 _ _ _ h
  · have h := o_pos e3 h
    refine g_bipush (pc := 16) C (-2 : Int32) d_Mo_recall_16 (by decide) ?_
    obtain rfl := o_ret h
    exact g_iret (pc := 18) C d_Mo_recall_18
set_option maxRecDepth 20000 in
theorem k_Mo_recall (l : Launch) {I : HI} {J : HJ} {N : HN} {a0 : Nat} {p1 : Int32} {r : HI × Int32} (ha0 : gk Tm nM a0 (0, 11)) (h : Mo_recall N a0 p1 I = some r) : gM l y_Mo_recall c_Mo_recall 3 (some .int) rm_Mo_recall Tm nM I J N (fun ad => [.ref (ad a0), .int p1]) (r.1, J, N, fun _ => some (.int r.2)) :=
  g_meth (lv := fun ad => [(0, .ref (ad a0)), (1, .int p1)]) (by decide) (fun _ => Nat.le_of_ble_eq_true rfl) (fun _ => rfl) (fun X ad C => g_lv [0, 1] rfl (w_Mo_recall_0 C ha0 h))
theorem d_Mo_write_0 : decode c_Mo_write 0 = .ok (.iload_n 1, 1) := by decide +kernel
theorem d_Mo_write_1 : decode c_Mo_write 1 = .ok (.invokestatic 95, 3) := by decide +kernel
theorem d_Mo_write_4 : decode c_Mo_write 4 = .ok (.ifCond .ne 6, 3) := by decide +kernel
theorem d_Mo_write_7 : decode c_Mo_write 7 = .ok (.bipush (-2), 2) := by decide +kernel
theorem d_Mo_write_9 : decode c_Mo_write 9 = .ok (.ireturn, 1) := by decide +kernel
theorem d_Mo_write_10 : decode c_Mo_write 10 = .ok (.aload_n 0, 1) := by decide +kernel
theorem d_Mo_write_11 : decode c_Mo_write 11 = .ok (.getfield 7, 3) := by decide +kernel
theorem d_Mo_write_14 : decode c_Mo_write 14 = .ok (.iload_n 1, 1) := by decide +kernel
theorem d_Mo_write_15 : decode c_Mo_write 15 = .ok (.iaload, 1) := by decide +kernel
theorem d_Mo_write_16 : decode c_Mo_write 16 = .ok (.iconst (-1), 1) := by decide +kernel
theorem d_Mo_write_17 : decode c_Mo_write 17 = .ok (.if_icmp .ne 9, 3) := by decide +kernel
theorem d_Mo_write_20 : decode c_Mo_write 20 = .ok (.aload_n 0, 1) := by decide +kernel
theorem d_Mo_write_21 : decode c_Mo_write 21 = .ok (.iconst 1, 1) := by decide +kernel
theorem d_Mo_write_22 : decode c_Mo_write 22 = .ok (.invokevirtual 99, 3) := by decide +kernel
theorem d_Mo_write_25 : decode c_Mo_write 25 = .ok (.ireturn, 1) := by decide +kernel
theorem d_Mo_write_26 : decode c_Mo_write 26 = .ok (.aload_n 0, 1) := by decide +kernel
theorem d_Mo_write_27 : decode c_Mo_write 27 = .ok (.getfield 7, 3) := by decide +kernel
theorem d_Mo_write_30 : decode c_Mo_write 30 = .ok (.iload_n 1, 1) := by decide +kernel
theorem d_Mo_write_31 : decode c_Mo_write 31 = .ok (.iaload, 1) := by decide +kernel
theorem d_Mo_write_32 : decode c_Mo_write 32 = .ok (.iconst 5, 1) := by decide +kernel
theorem d_Mo_write_33 : decode c_Mo_write 33 = .ok (.aload_n 0, 1) := by decide +kernel
theorem d_Mo_write_34 : decode c_Mo_write 34 = .ok (.getfield 159, 3) := by decide +kernel
theorem d_Mo_write_37 : decode c_Mo_write 37 = .ok (.imul, 1) := by decide +kernel
theorem d_Mo_write_38 : decode c_Mo_write 38 = .ok (.invokestatic 334, 3) := by decide +kernel
theorem d_Mo_write_41 : decode c_Mo_write 41 = .ok (.istore_n 2, 1) := by decide +kernel
theorem d_Mo_write_42 : decode c_Mo_write 42 = .ok (.iconst 0, 1) := by decide +kernel
theorem d_Mo_write_43 : decode c_Mo_write 43 = .ok (.istore_n 3, 1) := by decide +kernel
theorem d_Mo_write_44 : decode c_Mo_write 44 = .ok (.iload_n 3, 1) := by decide +kernel
theorem d_Mo_write_45 : decode c_Mo_write 45 = .ok (.iload_n 2, 1) := by decide +kernel
theorem d_Mo_write_46 : decode c_Mo_write 46 = .ok (.if_icmp .ge 27, 3) := by decide +kernel
theorem d_Mo_write_49 : decode c_Mo_write 49 = .ok (.aload_n 0, 1) := by decide +kernel
theorem d_Mo_write_50 : decode c_Mo_write 50 = .ok (.getfield 13, 3) := by decide +kernel
theorem d_Mo_write_53 : decode c_Mo_write 53 = .ok (.bipush 40, 2) := by decide +kernel
theorem d_Mo_write_55 : decode c_Mo_write 55 = .ok (.iload_n 1, 1) := by decide +kernel
theorem d_Mo_write_56 : decode c_Mo_write 56 = .ok (.imul, 1) := by decide +kernel
theorem d_Mo_write_57 : decode c_Mo_write 57 = .ok (.iload_n 3, 1) := by decide +kernel
theorem d_Mo_write_58 : decode c_Mo_write 58 = .ok (.iadd, 1) := by decide +kernel
theorem d_Mo_write_59 : decode c_Mo_write 59 = .ok (.aload_n 0, 1) := by decide +kernel
theorem d_Mo_write_60 : decode c_Mo_write 60 = .ok (.getfield 23, 3) := by decide +kernel
theorem d_Mo_write_63 : decode c_Mo_write 63 = .ok (.iload_n 3, 1) := by decide +kernel
theorem d_Mo_write_64 : decode c_Mo_write 64 = .ok (.iaload, 1) := by decide +kernel
theorem d_Mo_write_65 : decode c_Mo_write 65 = .ok (.i2l, 1) := by decide +kernel
theorem d_Mo_write_66 : decode c_Mo_write 66 = .ok (.lastore, 1) := by decide +kernel
theorem d_Mo_write_67 : decode c_Mo_write 67 = .ok (.iinc 3 1, 3) := by decide +kernel
theorem d_Mo_write_70 : decode c_Mo_write 70 = .ok (.goto (-26), 3) := by decide +kernel
theorem d_Mo_write_73 : decode c_Mo_write 73 = .ok (.iload_n 2, 1) := by decide +kernel
theorem d_Mo_write_74 : decode c_Mo_write 74 = .ok (.ireturn, 1) := by decide +kernel
set_option maxRecDepth 20000 in
theorem w_Mo_write_44b {X : HX} {ad : Nat → Nat} {I : HI} {J : HJ} {N : HN} {r : HI × HJ × Int32} {k44 : HI → HJ → Int32 → Int32 → Option (HI × HJ × Int32)} {a0 : Nat} {p1 : Int32} {x2 : Int32} {x3 : Int32} (C : Cx X c_Mo_write RX11 4 (some .int) rm_Mo_write) (ha0 : gk Tm nM a0 (0, 11))
    (hk44 : ∀ (I : HI) (J : HJ) (x2 : Int32) (x3 : Int32), k44 I J x2 x3 = some r → G Tm X ad nM 0 0 I J N (gE X Tm ad nM (r.1, r.2.1, N, fun _ => some (.int r.2.2))) 44 4 [(0, .ref (ad a0)), (1, .int p1), (2, .int x2), (3, .int x3)] [])
    (h : Mo_write_44b N a0 p1 k44 I J x2 x3 = some r) : G Tm X ad nM 0 0 I J N (gE X Tm ad nM (r.1, r.2.1, N, fun _ => some (.int r.2.2))) 44 4 [(0, .ref (ad a0)), (1, .int p1), (2, .int x2), (3, .int x3)] [] := by
  refine g_iload_n (pc := 44) C d_Mo_write_44 rfl 3 rfl ?_
  refine g_iload_n (pc := 45) C d_Mo_write_45 rfl 2 rfl ?_
  refine g_icmp_ge (pc := 46) C 73 d_Mo_write_46 rfl (fun e1 => ?_) (fun e1 => ?_)
  · have h := o_pos e1 h
    refine g_iload_n (pc := 73) C d_Mo_write_73 rfl 2 rfl ?_
    obtain rfl := o_ret h
    exact g_iret (pc := 74) C d_Mo_write_74
  · have h := o_neg e1 h
    refine g_aload_n (pc := 49) C d_Mo_write_49 rfl 0 rfl ?_
    obtain ⟨b2, hnb2, hb2, h⟩ := o_ra h
    refine g_get (pc := 50) (k := 2) (v := va_rf ((N a0 2).map ad)) C gcX11 inX11 (by decide) fl_Mo_13 ha0 rfl d_Mo_write_50 ?_
    refine g_top (g_rf hnb2) ?_
    refine g_bipush (pc := 53) C (40 : Int32) d_Mo_write_53 (by decide) ?_
    refine g_iload_n (pc := 55) C d_Mo_write_55 rfl 1 rfl ?_
    refine g_imul (pc := 56) C d_Mo_write_56 ?_
    refine g_iload_n (pc := 57) C d_Mo_write_57 rfl 3 rfl ?_
    refine g_iadd (pc := 58) C d_Mo_write_58 ?_
    refine g_aload_n (pc := 59) C d_Mo_write_59 rfl 0 rfl ?_
    obtain ⟨b3, hnb3, hb3, h⟩ := o_ra h
    refine g_get (pc := 60) (k := 5) (v := va_rf ((N a0 5).map ad)) C gcX11 inX11 (by decide) fl_Mo_23 ha0 rfl d_Mo_write_60 ?_
    refine g_top (g_rf hnb3) ?_
    refine g_iload_n (pc := 63) C d_Mo_write_63 rfl 3 rfl ?_
    obtain ⟨hi4, h⟩ := o_gd h
    refine g_iald (pc := 64) C hb3 hi4 d_Mo_write_64 ?_
    refine g_i2l (pc := 65) C d_Mo_write_65 ?_
    obtain ⟨hi5, h⟩ := o_gd h
    refine g_last (pc := 66) C hb2 hi5 d_Mo_write_66 ?_
    obtain ⟨J6, eJ6, h⟩ := o_bd h
    rw [← eJ6]
    refine g_iinc (pc := 67) (q := 3) (lv' := [(3, .int (x3 + 1)), (0, .ref (ad a0)), (1, .int p1), (2, .int x2)]) C d_Mo_write_67 rfl rfl (by decide) rfl ?_
    refine g_goto (pc := 70) C 44 d_Mo_write_70 rfl ?_
    refine g_lv [1, 2, 3, 0] rfl ?_
    exact hk44 _ _ _ _ h
set_option maxRecDepth 20000 in
theorem w_Mo_write_44 {X : HX} {ad : Nat → Nat} {N : HN} {r : HI × HJ × Int32} {a0 : Nat} {p1 : Int32} (C : Cx X c_Mo_write RX11 4 (some .int) rm_Mo_write) (ha0 : gk Tm nM a0 (0, 11)) : ∀ (n : Nat) (I : HI) (J : HJ) (x2 : Int32) (x3 : Int32), Mo_write_44 N a0 p1 n I J x2 x3 = some r → G Tm X ad nM 0 0 I J N (gE X Tm ad nM (r.1, r.2.1, N, fun _ => some (.int r.2.2))) 44 4 [(0, .ref (ad a0)), (1, .int p1), (2, .int x2), (3, .int x3)] [] := by
  intro n
  induction n with
  | zero => intro I J x2 x3 h; cases h
  | succ n ih => intro I J x2 x3 h; exact w_Mo_write_44b C ha0 ih h
set_option maxRecDepth 20000 in
theorem w_Mo_write_0 {X : HX} {ad : Nat → Nat} {I : HI} {J : HJ} {N : HN} {r : HI × HJ × Int32} {a0 : Nat} {p1 : Int32} (C : Cx X c_Mo_write RX11 4 (some .int) rm_Mo_write) (ha0 : gk Tm nM a0 (0, 11))
    (h : Mo_write_0 N a0 p1 I J = some r) : G Tm X ad nM 0 0 I J N (gE X Tm ad nM (r.1, r.2.1, N, fun _ => some (.int r.2.2))) 0 4 [(0, .ref (ad a0)), (1, .int p1)] [] := by
  refine g_iload_n (pc := 0) C d_Mo_write_0 rfl 1 rfl ?_
  obtain ⟨r1, hc2, h⟩ := o_bn1 h
  refine g_S (pc := 1) (rest := []) C (k_Mo_isSheet (xl X)  hc2) sm_Mo_isSheet ml_Mo_95 st_Mo_isSheet ⟨rfl, rfl, Nat.le_of_ble_eq_true rfl, Nat.le_of_ble_eq_true rfl⟩ ⟨Nat.zero_le _, Nat.zero_le _⟩ rfl rfl (Nat.le_of_ble_eq_true rfl) d_Mo_write_1 [.int r1] rfl ?_
  refine g_if_ne (pc := 4) C 10 d_Mo_write_4 rfl (fun e3 => ?_) (fun e3 => ?_)
  · have h := o_neg e3 h
    refine g_aload_n (pc := 10) C d_Mo_write_10 rfl 0 rfl ?_
    obtain ⟨b4, hnb4, hb4, h⟩ := o_ra h
    refine g_get (pc := 11) (k := 1) (v := va_rf ((N a0 1).map ad)) C gcX11 inX11 (by decide) fl_Mo_7 ha0 rfl d_Mo_write_11 ?_
    refine g_top (g_rf hnb4) ?_
    refine g_iload_n (pc := 14) C d_Mo_write_14 rfl 1 rfl ?_
    obtain ⟨hi5, h⟩ := o_gd h
    refine g_iald (pc := 15) C hb4 hi5 d_Mo_write_15 ?_
    refine g_iconst (pc := 16) C (-1 : Int32) d_Mo_write_16 (by decide) ?_
    refine g_icmp_ne (pc := 17) C 26 d_Mo_write_17 rfl (fun e6 => ?_) (fun e6 => ?_)
    · have h := o_neg e6 h
      refine g_aload_n (pc := 26) C d_Mo_write_26 rfl 0 rfl ?_
      obtain ⟨b7, hnb7, hb7, h⟩ := o_ra h
      refine g_get (pc := 27) (k := 1) (v := va_rf ((N a0 1).map ad)) C gcX11 inX11 (by decide) fl_Mo_7 ha0 rfl d_Mo_write_27 ?_
      refine g_top (g_rf hnb7) ?_
      refine g_iload_n (pc := 30) C d_Mo_write_30 rfl 1 rfl ?_
      obtain ⟨hi8, h⟩ := o_gd h
      refine g_iald (pc := 31) C hb7 hi8 d_Mo_write_31 ?_
      refine g_iconst (pc := 32) C (5 : Int32) d_Mo_write_32 (by decide) ?_
      refine g_aload_n (pc := 33) C d_Mo_write_33 rfl 0 rfl ?_
      refine g_get (pc := 34) (k := 6) (v := .int (I a0 6)) C gcX11 inX11 (by decide) fl_Mo_159 ha0 rfl d_Mo_write_34 ?_
      refine g_imul (pc := 37) C d_Mo_write_37 ?_
      obtain ⟨r9, hc10, h⟩ := o_bn1 h
      refine g_S (pc := 38) (rest := []) C (k_Mo_lesser (xl X)  hc10) sm_Mo_lesser ml_Mo_334 st_Mo_lesser ⟨rfl, rfl, Nat.le_of_ble_eq_true rfl, Nat.le_of_ble_eq_true rfl⟩ ⟨Nat.zero_le _, Nat.zero_le _⟩ rfl rfl (Nat.le_of_ble_eq_true rfl) d_Mo_write_38 [.int r9] rfl ?_
      refine g_istore_n (pc := 41) (lv' := [(2, .int r9), (0, .ref (ad a0)), (1, .int p1)]) C d_Mo_write_41 rfl (by decide) rfl ?_
      refine g_iconst (pc := 42) C (0 : Int32) d_Mo_write_42 (by decide) ?_
      refine g_istore_n (pc := 43) (lv' := [(3, .int (0 : Int32)), (2, .int r9), (0, .ref (ad a0)), (1, .int p1)]) C d_Mo_write_43 rfl (by decide) rfl ?_
      refine g_lv [2, 3, 1, 0] rfl ?_
      exact w_Mo_write_44 C ha0 _ _ _ _ _ h
    · have h := o_pos e6 h
      refine g_aload_n (pc := 20) C d_Mo_write_20 rfl 0 rfl ?_
      refine g_iconst (pc := 21) C (1 : Int32) d_Mo_write_21 (by decide) ?_
      obtain ⟨I11, r12, hc13, h⟩ := o_bn2 h
      refine g_V (pc := 22) (rest := []) C (k_Mo_finds (xl X) ha0 hc13) sm_Mo_finds ml_Mo_99 im_Mo_finds se_Mo_finds gcX11 rfl ha0 ⟨rfl, rfl, Nat.le_of_ble_eq_true rfl, Nat.le_of_ble_eq_true rfl⟩ ⟨Nat.zero_le _, Nat.zero_le _⟩ rfl rfl (Nat.le_of_ble_eq_true rfl) d_Mo_write_22 [.int r12] rfl ?_
      obtain rfl := o_ret h
      exact g_iret (pc := 25) C d_Mo_write_25
  · have h := o_pos e3 h
    refine g_bipush (pc := 7) C (-2 : Int32) d_Mo_write_7 (by decide) ?_
    obtain rfl := o_ret h
    exact g_iret (pc := 9) C d_Mo_write_9
set_option maxRecDepth 20000 in
theorem k_Mo_write (l : Launch) {I : HI} {J : HJ} {N : HN} {a0 : Nat} {p1 : Int32} {r : HI × HJ × Int32} (ha0 : gk Tm nM a0 (0, 11)) (h : Mo_write N a0 p1 I J = some r) : gM l y_Mo_write c_Mo_write 4 (some .int) rm_Mo_write Tm nM I J N (fun ad => [.ref (ad a0), .int p1]) (r.1, r.2.1, N, fun _ => some (.int r.2.2)) :=
  g_meth (lv := fun ad => [(0, .ref (ad a0)), (1, .int p1)]) (by decide) (fun _ => Nat.le_of_ble_eq_true rfl) (fun _ => rfl) (fun X ad C => g_lv [0, 1] rfl (w_Mo_write_0 C ha0 h))
theorem d_Mo_keptAll_0 : decode c_Mo_keptAll 0 = .ok (.iconst 0, 1) := by decide +kernel
theorem d_Mo_keptAll_1 : decode c_Mo_keptAll 1 = .ok (.istore_n 1, 1) := by decide +kernel
theorem d_Mo_keptAll_2 : decode c_Mo_keptAll 2 = .ok (.iconst 0, 1) := by decide +kernel
theorem d_Mo_keptAll_3 : decode c_Mo_keptAll 3 = .ok (.istore_n 2, 1) := by decide +kernel
theorem d_Mo_keptAll_4 : decode c_Mo_keptAll 4 = .ok (.iload_n 2, 1) := by decide +kernel
theorem d_Mo_keptAll_5 : decode c_Mo_keptAll 5 = .ok (.aload_n 0, 1) := by decide +kernel
theorem d_Mo_keptAll_6 : decode c_Mo_keptAll 6 = .ok (.getfield 325, 3) := by decide +kernel
theorem d_Mo_keptAll_9 : decode c_Mo_keptAll 9 = .ok (.if_icmp .ge 18, 3) := by decide +kernel
theorem d_Mo_keptAll_12 : decode c_Mo_keptAll 12 = .ok (.iload_n 1, 1) := by decide +kernel
theorem d_Mo_keptAll_13 : decode c_Mo_keptAll 13 = .ok (.aload_n 0, 1) := by decide +kernel
theorem d_Mo_keptAll_14 : decode c_Mo_keptAll 14 = .ok (.getfield 77, 3) := by decide +kernel
theorem d_Mo_keptAll_17 : decode c_Mo_keptAll 17 = .ok (.iload_n 2, 1) := by decide +kernel
theorem d_Mo_keptAll_18 : decode c_Mo_keptAll 18 = .ok (.iaload, 1) := by decide +kernel
theorem d_Mo_keptAll_19 : decode c_Mo_keptAll 19 = .ok (.iadd, 1) := by decide +kernel
theorem d_Mo_keptAll_20 : decode c_Mo_keptAll 20 = .ok (.istore_n 1, 1) := by decide +kernel
theorem d_Mo_keptAll_21 : decode c_Mo_keptAll 21 = .ok (.iinc 2 1, 3) := by decide +kernel
theorem d_Mo_keptAll_24 : decode c_Mo_keptAll 24 = .ok (.goto (-20), 3) := by decide +kernel
theorem d_Mo_keptAll_27 : decode c_Mo_keptAll 27 = .ok (.iload_n 1, 1) := by decide +kernel
theorem d_Mo_keptAll_28 : decode c_Mo_keptAll 28 = .ok (.ireturn, 1) := by decide +kernel
set_option maxRecDepth 20000 in
theorem w_Mo_keptAll_4b {X : HX} {ad : Nat → Nat} {I : HI} {J : HJ} {N : HN} {r : Int32} {k4 : Int32 → Int32 → Option (Int32)} {a0 : Nat} {x1 : Int32} {x2 : Int32} (C : Cx X c_Mo_keptAll RX11 3 (some .int) rm_Mo_keptAll) (ha0 : gk Tm nM a0 (0, 11))
    (hk4 : ∀ (x1 : Int32) (x2 : Int32), k4 x1 x2 = some r → G Tm X ad nM 0 0 I J N (gE X Tm ad nM (I, J, N, fun _ => some (.int r))) 4 3 [(0, .ref (ad a0)), (1, .int x1), (2, .int x2)] [])
    (h : Mo_keptAll_4b I N a0 k4 x1 x2 = some r) : G Tm X ad nM 0 0 I J N (gE X Tm ad nM (I, J, N, fun _ => some (.int r))) 4 3 [(0, .ref (ad a0)), (1, .int x1), (2, .int x2)] [] := by
  refine g_iload_n (pc := 4) C d_Mo_keptAll_4 rfl 2 rfl ?_
  refine g_aload_n (pc := 5) C d_Mo_keptAll_5 rfl 0 rfl ?_
  refine g_get (pc := 6) (k := 31) (v := .int (I a0 31)) C gcX11 inX11 (by decide) fl_Mo_325 ha0 rfl d_Mo_keptAll_6 ?_
  refine g_icmp_ge (pc := 9) C 27 d_Mo_keptAll_9 rfl (fun e1 => ?_) (fun e1 => ?_)
  · have h := o_pos e1 h
    refine g_iload_n (pc := 27) C d_Mo_keptAll_27 rfl 1 rfl ?_
    obtain rfl := o_ret h
    exact g_iret (pc := 28) C d_Mo_keptAll_28
  · have h := o_neg e1 h
    refine g_iload_n (pc := 12) C d_Mo_keptAll_12 rfl 1 rfl ?_
    refine g_aload_n (pc := 13) C d_Mo_keptAll_13 rfl 0 rfl ?_
    obtain ⟨b2, hnb2, hb2, h⟩ := o_ra h
    refine g_get (pc := 14) (k := 30) (v := va_rf ((N a0 30).map ad)) C gcX11 inX11 (by decide) fl_Mo_77 ha0 rfl d_Mo_keptAll_14 ?_
    refine g_top (g_rf hnb2) ?_
    refine g_iload_n (pc := 17) C d_Mo_keptAll_17 rfl 2 rfl ?_
    obtain ⟨hi3, h⟩ := o_gd h
    refine g_iald (pc := 18) C hb2 hi3 d_Mo_keptAll_18 ?_
    refine g_iadd (pc := 19) C d_Mo_keptAll_19 ?_
    obtain ⟨v4, ev4, h⟩ := o_bd h
    refine g_topi ev4 ?_
    refine g_istore_n (pc := 20) (lv' := [(1, .int v4), (0, .ref (ad a0)), (2, .int x2)]) C d_Mo_keptAll_20 rfl (by decide) rfl ?_
    refine g_iinc (pc := 21) (q := 2) (lv' := [(2, .int (x2 + 1)), (1, .int v4), (0, .ref (ad a0))]) C d_Mo_keptAll_21 rfl rfl (by decide) rfl ?_
    refine g_goto (pc := 24) C 4 d_Mo_keptAll_24 rfl ?_
    refine g_lv [2, 1, 0] rfl ?_
    exact hk4 _ _ h
set_option maxRecDepth 20000 in
theorem w_Mo_keptAll_4 {X : HX} {ad : Nat → Nat} {I : HI} {J : HJ} {N : HN} {r : Int32} {a0 : Nat} (C : Cx X c_Mo_keptAll RX11 3 (some .int) rm_Mo_keptAll) (ha0 : gk Tm nM a0 (0, 11)) : ∀ (n : Nat) (x1 : Int32) (x2 : Int32), Mo_keptAll_4 I N a0 n x1 x2 = some r → G Tm X ad nM 0 0 I J N (gE X Tm ad nM (I, J, N, fun _ => some (.int r))) 4 3 [(0, .ref (ad a0)), (1, .int x1), (2, .int x2)] [] := by
  intro n
  induction n with
  | zero => intro x1 x2 h; cases h
  | succ n ih => intro x1 x2 h; exact w_Mo_keptAll_4b C ha0 ih h
set_option maxRecDepth 20000 in
theorem w_Mo_keptAll_0 {X : HX} {ad : Nat → Nat} {I : HI} {J : HJ} {N : HN} {r : Int32} {a0 : Nat} (C : Cx X c_Mo_keptAll RX11 3 (some .int) rm_Mo_keptAll) (ha0 : gk Tm nM a0 (0, 11))
    (h : Mo_keptAll_0 I N a0 = some r) : G Tm X ad nM 0 0 I J N (gE X Tm ad nM (I, J, N, fun _ => some (.int r))) 0 3 [(0, .ref (ad a0))] [] := by
  refine g_iconst (pc := 0) C (0 : Int32) d_Mo_keptAll_0 (by decide) ?_
  refine g_istore_n (pc := 1) (lv' := [(1, .int (0 : Int32)), (0, .ref (ad a0))]) C d_Mo_keptAll_1 rfl (by decide) rfl ?_
  refine g_iconst (pc := 2) C (0 : Int32) d_Mo_keptAll_2 (by decide) ?_
  refine g_istore_n (pc := 3) (lv' := [(2, .int (0 : Int32)), (1, .int (0 : Int32)), (0, .ref (ad a0))]) C d_Mo_keptAll_3 rfl (by decide) rfl ?_
  refine g_lv [2, 1, 0] rfl ?_
  exact w_Mo_keptAll_4 C ha0 _ _ _ h
set_option maxRecDepth 20000 in
theorem k_Mo_keptAll (l : Launch) {I : HI} {J : HJ} {N : HN} {a0 : Nat} {r : Int32} (ha0 : gk Tm nM a0 (0, 11)) (h : Mo_keptAll I N a0 = some r) : gM l y_Mo_keptAll c_Mo_keptAll 3 (some .int) rm_Mo_keptAll Tm nM I J N (fun ad => [.ref (ad a0)]) (I, J, N, fun _ => some (.int r)) :=
  g_meth (lv := fun ad => [(0, .ref (ad a0))]) (by decide) (fun _ => Nat.le_of_ble_eq_true rfl) (fun _ => rfl) (fun X ad C => g_lv [0] rfl (w_Mo_keptAll_0 C ha0 h))
theorem d_Mo_sheets_0 : decode c_Mo_sheets 0 = .ok (.iconst 0, 1) := by decide +kernel
theorem d_Mo_sheets_1 : decode c_Mo_sheets 1 = .ok (.istore_n 1, 1) := by decide +kernel
theorem d_Mo_sheets_2 : decode c_Mo_sheets 2 = .ok (.iconst 0, 1) := by decide +kernel
theorem d_Mo_sheets_3 : decode c_Mo_sheets 3 = .ok (.istore_n 2, 1) := by decide +kernel
theorem d_Mo_sheets_4 : decode c_Mo_sheets 4 = .ok (.iload_n 2, 1) := by decide +kernel
theorem d_Mo_sheets_5 : decode c_Mo_sheets 5 = .ok (.iconst 3, 1) := by decide +kernel
theorem d_Mo_sheets_6 : decode c_Mo_sheets 6 = .ok (.if_icmp .ge 27, 3) := by decide +kernel
theorem d_Mo_sheets_9 : decode c_Mo_sheets 9 = .ok (.iload_n 1, 1) := by decide +kernel
theorem d_Mo_sheets_10 : decode c_Mo_sheets 10 = .ok (.aload_n 0, 1) := by decide +kernel
theorem d_Mo_sheets_11 : decode c_Mo_sheets 11 = .ok (.getfield 7, 3) := by decide +kernel
theorem d_Mo_sheets_14 : decode c_Mo_sheets 14 = .ok (.iload_n 2, 1) := by decide +kernel
theorem d_Mo_sheets_15 : decode c_Mo_sheets 15 = .ok (.iaload, 1) := by decide +kernel
theorem d_Mo_sheets_16 : decode c_Mo_sheets 16 = .ok (.iconst (-1), 1) := by decide +kernel
theorem d_Mo_sheets_17 : decode c_Mo_sheets 17 = .ok (.if_icmp .ne 7, 3) := by decide +kernel
theorem d_Mo_sheets_20 : decode c_Mo_sheets 20 = .ok (.iconst 0, 1) := by decide +kernel
theorem d_Mo_sheets_21 : decode c_Mo_sheets 21 = .ok (.goto 4, 3) := by decide +kernel
theorem d_Mo_sheets_24 : decode c_Mo_sheets 24 = .ok (.iconst 1, 1) := by decide +kernel
theorem d_Mo_sheets_25 : decode c_Mo_sheets 25 = .ok (.iadd, 1) := by decide +kernel
theorem d_Mo_sheets_26 : decode c_Mo_sheets 26 = .ok (.istore_n 1, 1) := by decide +kernel
theorem d_Mo_sheets_27 : decode c_Mo_sheets 27 = .ok (.iinc 2 1, 3) := by decide +kernel
theorem d_Mo_sheets_30 : decode c_Mo_sheets 30 = .ok (.goto (-26), 3) := by decide +kernel
theorem d_Mo_sheets_33 : decode c_Mo_sheets 33 = .ok (.iload_n 1, 1) := by decide +kernel
theorem d_Mo_sheets_34 : decode c_Mo_sheets 34 = .ok (.ireturn, 1) := by decide +kernel
set_option maxRecDepth 20000 in
theorem w_Mo_sheets_25 {X : HX} {ad : Nat → Nat} {I : HI} {J : HJ} {N : HN} {r : Int32} {k4 : Int32 → Int32 → Option (Int32)} {a0 : Nat} {x2 : Int32} {s0 : Int32} {s1 : Int32} (C : Cx X c_Mo_sheets RX11 3 (some .int) rm_Mo_sheets) (ha0 : gk Tm nM a0 (0, 11))
    (hk4 : ∀ (x1 : Int32) (x2 : Int32), k4 x1 x2 = some r → G Tm X ad nM 0 0 I J N (gE X Tm ad nM (I, J, N, fun _ => some (.int r))) 4 3 [(0, .ref (ad a0)), (1, .int x1), (2, .int x2)] [])
    (h : Mo_sheets_25 I N a0 k4 x2 s0 s1 = some r) : G Tm X ad nM 0 0 I J N (gE X Tm ad nM (I, J, N, fun _ => some (.int r))) 25 3 [(0, .ref (ad a0)), (2, .int x2)] [.int s1, .int s0] := by
  refine g_iadd (pc := 25) C d_Mo_sheets_25 ?_
  obtain ⟨v1, ev1, h⟩ := o_bd h
  refine g_topi ev1 ?_
  refine g_istore_n (pc := 26) (lv' := [(1, .int v1), (0, .ref (ad a0)), (2, .int x2)]) C d_Mo_sheets_26 rfl (by decide) rfl ?_
  refine g_iinc (pc := 27) (q := 2) (lv' := [(2, .int (x2 + 1)), (1, .int v1), (0, .ref (ad a0))]) C d_Mo_sheets_27 rfl rfl (by decide) rfl ?_
  refine g_goto (pc := 30) C 4 d_Mo_sheets_30 rfl ?_
  refine g_lv [2, 1, 0] rfl ?_
  exact hk4 _ _ h
set_option maxRecDepth 20000 in
theorem w_Mo_sheets_4b {X : HX} {ad : Nat → Nat} {I : HI} {J : HJ} {N : HN} {r : Int32} {k4 : Int32 → Int32 → Option (Int32)} {a0 : Nat} {x1 : Int32} {x2 : Int32} (C : Cx X c_Mo_sheets RX11 3 (some .int) rm_Mo_sheets) (ha0 : gk Tm nM a0 (0, 11))
    (hk4 : ∀ (x1 : Int32) (x2 : Int32), k4 x1 x2 = some r → G Tm X ad nM 0 0 I J N (gE X Tm ad nM (I, J, N, fun _ => some (.int r))) 4 3 [(0, .ref (ad a0)), (1, .int x1), (2, .int x2)] [])
    (h : Mo_sheets_4b I N a0 k4 x1 x2 = some r) : G Tm X ad nM 0 0 I J N (gE X Tm ad nM (I, J, N, fun _ => some (.int r))) 4 3 [(0, .ref (ad a0)), (1, .int x1), (2, .int x2)] [] := by
  refine g_iload_n (pc := 4) C d_Mo_sheets_4 rfl 2 rfl ?_
  refine g_iconst (pc := 5) C (3 : Int32) d_Mo_sheets_5 (by decide) ?_
  refine g_icmp_ge (pc := 6) C 33 d_Mo_sheets_6 rfl (fun e1 => ?_) (fun e1 => ?_)
  · have h := o_pos e1 h
    refine g_iload_n (pc := 33) C d_Mo_sheets_33 rfl 1 rfl ?_
    obtain rfl := o_ret h
    exact g_iret (pc := 34) C d_Mo_sheets_34
  · have h := o_neg e1 h
    refine g_iload_n (pc := 9) C d_Mo_sheets_9 rfl 1 rfl ?_
    refine g_aload_n (pc := 10) C d_Mo_sheets_10 rfl 0 rfl ?_
    obtain ⟨b2, hnb2, hb2, h⟩ := o_ra h
    refine g_get (pc := 11) (k := 1) (v := va_rf ((N a0 1).map ad)) C gcX11 inX11 (by decide) fl_Mo_7 ha0 rfl d_Mo_sheets_11 ?_
    refine g_top (g_rf hnb2) ?_
    refine g_iload_n (pc := 14) C d_Mo_sheets_14 rfl 2 rfl ?_
    obtain ⟨hi3, h⟩ := o_gd h
    refine g_iald (pc := 15) C hb2 hi3 d_Mo_sheets_15 ?_
    refine g_iconst (pc := 16) C (-1 : Int32) d_Mo_sheets_16 (by decide) ?_
    refine g_icmp_ne (pc := 17) C 24 d_Mo_sheets_17 rfl (fun e4 => ?_) (fun e4 => ?_)
    · have h := o_neg e4 h
      refine g_iconst (pc := 24) C (1 : Int32) d_Mo_sheets_24 (by decide) ?_
      refine g_lv [0, 2] rfl ?_
      exact w_Mo_sheets_25 C ha0 hk4 h
    · have h := o_pos e4 h
      refine g_iconst (pc := 20) C (0 : Int32) d_Mo_sheets_20 (by decide) ?_
      refine g_goto (pc := 21) C 25 d_Mo_sheets_21 rfl ?_
      refine g_lv [0, 2] rfl ?_
      exact w_Mo_sheets_25 C ha0 hk4 h
set_option maxRecDepth 20000 in
theorem w_Mo_sheets_4 {X : HX} {ad : Nat → Nat} {I : HI} {J : HJ} {N : HN} {r : Int32} {a0 : Nat} (C : Cx X c_Mo_sheets RX11 3 (some .int) rm_Mo_sheets) (ha0 : gk Tm nM a0 (0, 11)) : ∀ (n : Nat) (x1 : Int32) (x2 : Int32), Mo_sheets_4 I N a0 n x1 x2 = some r → G Tm X ad nM 0 0 I J N (gE X Tm ad nM (I, J, N, fun _ => some (.int r))) 4 3 [(0, .ref (ad a0)), (1, .int x1), (2, .int x2)] [] := by
  intro n
  induction n with
  | zero => intro x1 x2 h; cases h
  | succ n ih => intro x1 x2 h; exact w_Mo_sheets_4b C ha0 ih h
set_option maxRecDepth 20000 in
theorem w_Mo_sheets_0 {X : HX} {ad : Nat → Nat} {I : HI} {J : HJ} {N : HN} {r : Int32} {a0 : Nat} (C : Cx X c_Mo_sheets RX11 3 (some .int) rm_Mo_sheets) (ha0 : gk Tm nM a0 (0, 11))
    (h : Mo_sheets_0 I N a0 = some r) : G Tm X ad nM 0 0 I J N (gE X Tm ad nM (I, J, N, fun _ => some (.int r))) 0 3 [(0, .ref (ad a0))] [] := by
  refine g_iconst (pc := 0) C (0 : Int32) d_Mo_sheets_0 (by decide) ?_
  refine g_istore_n (pc := 1) (lv' := [(1, .int (0 : Int32)), (0, .ref (ad a0))]) C d_Mo_sheets_1 rfl (by decide) rfl ?_
  refine g_iconst (pc := 2) C (0 : Int32) d_Mo_sheets_2 (by decide) ?_
  refine g_istore_n (pc := 3) (lv' := [(2, .int (0 : Int32)), (1, .int (0 : Int32)), (0, .ref (ad a0))]) C d_Mo_sheets_3 rfl (by decide) rfl ?_
  refine g_lv [2, 1, 0] rfl ?_
  exact w_Mo_sheets_4 C ha0 _ _ _ h
set_option maxRecDepth 20000 in
theorem k_Mo_sheets (l : Launch) {I : HI} {J : HJ} {N : HN} {a0 : Nat} {r : Int32} (ha0 : gk Tm nM a0 (0, 11)) (h : Mo_sheets I N a0 = some r) : gM l y_Mo_sheets c_Mo_sheets 3 (some .int) rm_Mo_sheets Tm nM I J N (fun ad => [.ref (ad a0)]) (I, J, N, fun _ => some (.int r)) :=
  g_meth (lv := fun ad => [(0, .ref (ad a0))]) (by decide) (fun _ => Nat.le_of_ble_eq_true rfl) (fun _ => rfl) (fun X ad C => g_lv [0] rfl (w_Mo_sheets_0 C ha0 h))
theorem d_Mo_count_0 : decode c_Mo_count 0 = .ok (.iload_n 1, 1) := by decide +kernel
theorem d_Mo_count_1 : decode c_Mo_count 1 = .ok (.tableswitch 112 0 8 #[51, 56, 68, 81, 87, 92, 97, 102, 107], 51) := by decide +kernel
theorem d_Mo_count_52 : decode c_Mo_count 52 = .ok (.aload_n 0, 1) := by decide +kernel
theorem d_Mo_count_53 : decode c_Mo_count 53 = .ok (.getfield 159, 3) := by decide +kernel
theorem d_Mo_count_56 : decode c_Mo_count 56 = .ok (.ireturn, 1) := by decide +kernel
theorem d_Mo_count_57 : decode c_Mo_count 57 = .ok (.aload_n 0, 1) := by decide +kernel
theorem d_Mo_count_58 : decode c_Mo_count 58 = .ok (.getfield 23, 3) := by decide +kernel
theorem d_Mo_count_61 : decode c_Mo_count 61 = .ok (.aload_n 0, 1) := by decide +kernel
theorem d_Mo_count_62 : decode c_Mo_count 62 = .ok (.getfield 159, 3) := by decide +kernel
theorem d_Mo_count_65 : decode c_Mo_count 65 = .ok (.invokestatic 162, 3) := by decide +kernel
theorem d_Mo_count_68 : decode c_Mo_count 68 = .ok (.ireturn, 1) := by decide +kernel
theorem d_Mo_count_69 : decode c_Mo_count 69 = .ok (.aload_n 0, 1) := by decide +kernel
theorem d_Mo_count_70 : decode c_Mo_count 70 = .ok (.invokevirtual 124, 3) := by decide +kernel
theorem d_Mo_count_73 : decode c_Mo_count 73 = .ok (.ifCond .eq 7, 3) := by decide +kernel
theorem d_Mo_count_76 : decode c_Mo_count 76 = .ok (.iconst 1, 1) := by decide +kernel
theorem d_Mo_count_77 : decode c_Mo_count 77 = .ok (.goto 4, 3) := by decide +kernel
theorem d_Mo_count_80 : decode c_Mo_count 80 = .ok (.iconst 0, 1) := by decide +kernel
theorem d_Mo_count_81 : decode c_Mo_count 81 = .ok (.ireturn, 1) := by decide +kernel
theorem d_Mo_count_82 : decode c_Mo_count 82 = .ok (.aload_n 0, 1) := by decide +kernel
theorem d_Mo_count_83 : decode c_Mo_count 83 = .ok (.iconst 1, 1) := by decide +kernel
theorem d_Mo_count_84 : decode c_Mo_count 84 = .ok (.invokevirtual 312, 3) := by decide +kernel
theorem d_Mo_count_87 : decode c_Mo_count 87 = .ok (.ireturn, 1) := by decide +kernel
theorem d_Mo_count_88 : decode c_Mo_count 88 = .ok (.aload_n 0, 1) := by decide +kernel
theorem d_Mo_count_89 : decode c_Mo_count 89 = .ok (.getfield 325, 3) := by decide +kernel
theorem d_Mo_count_92 : decode c_Mo_count 92 = .ok (.ireturn, 1) := by decide +kernel
theorem d_Mo_count_93 : decode c_Mo_count 93 = .ok (.aload_n 0, 1) := by decide +kernel
theorem d_Mo_count_94 : decode c_Mo_count 94 = .ok (.invokevirtual 337, 3) := by decide +kernel
theorem d_Mo_count_97 : decode c_Mo_count 97 = .ok (.ireturn, 1) := by decide +kernel
theorem d_Mo_count_98 : decode c_Mo_count 98 = .ok (.aload_n 0, 1) := by decide +kernel
theorem d_Mo_count_99 : decode c_Mo_count 99 = .ok (.invokevirtual 340, 3) := by decide +kernel
theorem d_Mo_count_102 : decode c_Mo_count 102 = .ok (.ireturn, 1) := by decide +kernel
theorem d_Mo_count_103 : decode c_Mo_count 103 = .ok (.aload_n 0, 1) := by decide +kernel
theorem d_Mo_count_104 : decode c_Mo_count 104 = .ok (.invokevirtual 343, 3) := by decide +kernel
theorem d_Mo_count_107 : decode c_Mo_count 107 = .ok (.ireturn, 1) := by decide +kernel
theorem d_Mo_count_108 : decode c_Mo_count 108 = .ok (.aload_n 0, 1) := by decide +kernel
theorem d_Mo_count_109 : decode c_Mo_count 109 = .ok (.getfield 89, 3) := by decide +kernel
theorem d_Mo_count_112 : decode c_Mo_count 112 = .ok (.ireturn, 1) := by decide +kernel
theorem d_Mo_count_113 : decode c_Mo_count 113 = .ok (.bipush (-2), 2) := by decide +kernel
theorem d_Mo_count_115 : decode c_Mo_count 115 = .ok (.ireturn, 1) := by decide +kernel
set_option maxRecDepth 20000 in
theorem w_Mo_count_0 {X : HX} {ad : Nat → Nat} {I : HI} {J : HJ} {N : HN} {r : HJ × Int32} {a0 : Nat} {p1 : Int32} (C : Cx X c_Mo_count RX11 2 (some .int) rm_Mo_count) (ha0 : gk Tm nM a0 (0, 11))
    (h : Mo_count_0 I N a0 p1 J = some r) : G Tm X ad nM 0 0 I J N (gE X Tm ad nM (I, r.1, N, fun _ => some (.int r.2))) 0 2 [(0, .ref (ad a0)), (1, .int p1)] [] := by
  refine g_iload_n (pc := 0) C d_Mo_count_0 rfl 1 rfl ?_
  by_cases e1 : p1 = (0 : Int32)
  · have h := o_pos e1 h
    refine g_tableIn (pc := 1) C 52 d_Mo_count_1 (by rw [e1]; decide) (by rw [e1]; decide) (by rw [e1]; rfl) rfl ?_
    refine g_aload_n (pc := 52) C d_Mo_count_52 rfl 0 rfl ?_
    refine g_get (pc := 53) (k := 6) (v := .int (I a0 6)) C gcX11 inX11 (by decide) fl_Mo_159 ha0 rfl d_Mo_count_53 ?_
    obtain rfl := o_ret h
    exact g_iret (pc := 56) C d_Mo_count_56
  have h := o_neg e1 h
  by_cases e2 : p1 = (1 : Int32)
  · have h := o_pos e2 h
    refine g_tableIn (pc := 1) C 57 d_Mo_count_1 (by rw [e2]; decide) (by rw [e2]; decide) (by rw [e2]; rfl) rfl ?_
    refine g_aload_n (pc := 57) C d_Mo_count_57 rfl 0 rfl ?_
    obtain ⟨b3, hnb3, hb3, h⟩ := o_ra h
    refine g_get (pc := 58) (k := 5) (v := va_rf ((N a0 5).map ad)) C gcX11 inX11 (by decide) fl_Mo_23 ha0 rfl d_Mo_count_58 ?_
    refine g_top (g_rf hnb3) ?_
    refine g_aload_n (pc := 61) C d_Mo_count_61 rfl 0 rfl ?_
    refine g_get (pc := 62) (k := 6) (v := .int (I a0 6)) C gcX11 inX11 (by decide) fl_Mo_159 ha0 rfl d_Mo_count_62 ?_
    obtain ⟨r4, hc5, h⟩ := o_bn1 h
    refine g_S (pc := 65) (rest := []) C (k_Mo_valuesIn (xl X) hb3 hc5) sm_Mo_valuesIn ml_Mo_162 st_Mo_valuesIn ⟨rfl, rfl, Nat.le_of_ble_eq_true rfl, Nat.le_of_ble_eq_true rfl⟩ ⟨Nat.zero_le _, Nat.zero_le _⟩ rfl rfl (Nat.le_of_ble_eq_true rfl) d_Mo_count_65 [.int r4] rfl ?_
    obtain rfl := o_ret h
    exact g_iret (pc := 68) C d_Mo_count_68
  have h := o_neg e2 h
  by_cases e6 : p1 = (2 : Int32)
  · have h := o_pos e6 h
    refine g_tableIn (pc := 1) C 69 d_Mo_count_1 (by rw [e6]; decide) (by rw [e6]; decide) (by rw [e6]; rfl) rfl ?_
    refine g_aload_n (pc := 69) C d_Mo_count_69 rfl 0 rfl ?_
    obtain ⟨r7, hc8, h⟩ := o_bn1 h
    refine g_V (pc := 70) (rest := []) C (k_Mo_isLawful (xl X) ha0 hc8) sm_Mo_isLawful ml_Mo_124 im_Mo_isLawful se_Mo_isLawful gcX11 rfl ha0 ⟨rfl, rfl, Nat.le_of_ble_eq_true rfl, Nat.le_of_ble_eq_true rfl⟩ ⟨Nat.zero_le _, Nat.zero_le _⟩ rfl rfl (Nat.le_of_ble_eq_true rfl) d_Mo_count_70 [.int r7] rfl ?_
    refine g_if_eq (pc := 73) C 80 d_Mo_count_73 rfl (fun e9 => ?_) (fun e9 => ?_)
    · have h := o_pos e9 h
      refine g_iconst (pc := 80) C (0 : Int32) d_Mo_count_80 (by decide) ?_
      obtain rfl := o_ret h
      exact g_iret (pc := 81) C d_Mo_count_81
    · have h := o_neg e9 h
      refine g_iconst (pc := 76) C (1 : Int32) d_Mo_count_76 (by decide) ?_
      refine g_goto (pc := 77) C 81 d_Mo_count_77 rfl ?_
      obtain rfl := o_ret h
      exact g_iret (pc := 81) C d_Mo_count_81
  have h := o_neg e6 h
  by_cases e10 : p1 = (3 : Int32)
  · have h := o_pos e10 h
    refine g_tableIn (pc := 1) C 82 d_Mo_count_1 (by rw [e10]; decide) (by rw [e10]; decide) (by rw [e10]; rfl) rfl ?_
    refine g_aload_n (pc := 82) C d_Mo_count_82 rfl 0 rfl ?_
    refine g_iconst (pc := 83) C (1 : Int32) d_Mo_count_83 (by decide) ?_
    obtain ⟨r11, hc12, h⟩ := o_bn1 h
    refine g_V (pc := 84) (rest := []) C (k_Mo_parts (xl X) ha0 hc12) sm_Mo_parts ml_Mo_312 im_Mo_parts se_Mo_parts gcX11 rfl ha0 ⟨rfl, rfl, Nat.le_of_ble_eq_true rfl, Nat.le_of_ble_eq_true rfl⟩ ⟨Nat.zero_le _, Nat.zero_le _⟩ rfl rfl (Nat.le_of_ble_eq_true rfl) d_Mo_count_84 [.int r11] rfl ?_
    obtain rfl := o_ret h
    exact g_iret (pc := 87) C d_Mo_count_87
  have h := o_neg e10 h
  by_cases e13 : p1 = (4 : Int32)
  · have h := o_pos e13 h
    refine g_tableIn (pc := 1) C 88 d_Mo_count_1 (by rw [e13]; decide) (by rw [e13]; decide) (by rw [e13]; rfl) rfl ?_
    refine g_aload_n (pc := 88) C d_Mo_count_88 rfl 0 rfl ?_
    refine g_get (pc := 89) (k := 31) (v := .int (I a0 31)) C gcX11 inX11 (by decide) fl_Mo_325 ha0 rfl d_Mo_count_89 ?_
    obtain rfl := o_ret h
    exact g_iret (pc := 92) C d_Mo_count_92
  have h := o_neg e13 h
  by_cases e14 : p1 = (5 : Int32)
  · have h := o_pos e14 h
    refine g_tableIn (pc := 1) C 93 d_Mo_count_1 (by rw [e14]; decide) (by rw [e14]; decide) (by rw [e14]; rfl) rfl ?_
    refine g_aload_n (pc := 93) C d_Mo_count_93 rfl 0 rfl ?_
    obtain ⟨r15, hc16, h⟩ := o_bn1 h
    refine g_V (pc := 94) (rest := []) C (k_Mo_keptAll (xl X) ha0 hc16) sm_Mo_keptAll ml_Mo_337 im_Mo_keptAll se_Mo_keptAll gcX11 rfl ha0 ⟨rfl, rfl, Nat.le_of_ble_eq_true rfl, Nat.le_of_ble_eq_true rfl⟩ ⟨Nat.zero_le _, Nat.zero_le _⟩ rfl rfl (Nat.le_of_ble_eq_true rfl) d_Mo_count_94 [.int r15] rfl ?_
    obtain rfl := o_ret h
    exact g_iret (pc := 97) C d_Mo_count_97
  have h := o_neg e14 h
  by_cases e17 : p1 = (6 : Int32)
  · have h := o_pos e17 h
    refine g_tableIn (pc := 1) C 98 d_Mo_count_1 (by rw [e17]; decide) (by rw [e17]; decide) (by rw [e17]; rfl) rfl ?_
    refine g_aload_n (pc := 98) C d_Mo_count_98 rfl 0 rfl ?_
    obtain ⟨J18, r19, hc20, h⟩ := o_bn2 h
    refine g_V (pc := 99) (rest := []) C (k_Mo_alike (xl X) ha0 hc20) sm_Mo_alike ml_Mo_340 im_Mo_alike se_Mo_alike gcX11 rfl ha0 ⟨rfl, rfl, Nat.le_of_ble_eq_true rfl, Nat.le_of_ble_eq_true rfl⟩ ⟨Nat.zero_le _, Nat.zero_le _⟩ rfl rfl (Nat.le_of_ble_eq_true rfl) d_Mo_count_99 [.int r19] rfl ?_
    obtain rfl := o_ret h
    exact g_iret (pc := 102) C d_Mo_count_102
  have h := o_neg e17 h
  by_cases e21 : p1 = (7 : Int32)
  · have h := o_pos e21 h
    refine g_tableIn (pc := 1) C 103 d_Mo_count_1 (by rw [e21]; decide) (by rw [e21]; decide) (by rw [e21]; rfl) rfl ?_
    refine g_aload_n (pc := 103) C d_Mo_count_103 rfl 0 rfl ?_
    obtain ⟨r22, hc23, h⟩ := o_bn1 h
    refine g_V (pc := 104) (rest := []) C (k_Mo_sheets (xl X) ha0 hc23) sm_Mo_sheets ml_Mo_343 im_Mo_sheets se_Mo_sheets gcX11 rfl ha0 ⟨rfl, rfl, Nat.le_of_ble_eq_true rfl, Nat.le_of_ble_eq_true rfl⟩ ⟨Nat.zero_le _, Nat.zero_le _⟩ rfl rfl (Nat.le_of_ble_eq_true rfl) d_Mo_count_104 [.int r22] rfl ?_
    obtain rfl := o_ret h
    exact g_iret (pc := 107) C d_Mo_count_107
  have h := o_neg e21 h
  by_cases e24 : p1 = (8 : Int32)
  · have h := o_pos e24 h
    refine g_tableIn (pc := 1) C 108 d_Mo_count_1 (by rw [e24]; decide) (by rw [e24]; decide) (by rw [e24]; rfl) rfl ?_
    refine g_aload_n (pc := 108) C d_Mo_count_108 rfl 0 rfl ?_
    refine g_get (pc := 109) (k := 0) (v := .int (I a0 0)) C gcX11 inX11 (by decide) fl_Mo_89 ha0 rfl d_Mo_count_109 ?_
    obtain rfl := o_ret h
    exact g_iret (pc := 112) C d_Mo_count_112
  have h := o_neg e24 h
  refine g_tableOut (pc := 1) C 113 d_Mo_count_1 (sw_out _ 9 (by decide) (fun k hk => by
      rcases (show k = 0 ∨ k = 1 ∨ k = 2 ∨ k = 3 ∨ k = 4 ∨ k = 5 ∨ k = 6 ∨ k = 7 ∨ k = 8 by omega) with rfl | rfl | rfl | rfl | rfl | rfl | rfl | rfl | rfl
      · exact e1
      · exact e2
      · exact e6
      · exact e10
      · exact e13
      · exact e14
      · exact e17
      · exact e21
      · exact e24)) rfl ?_
  refine g_bipush (pc := 113) C (-2 : Int32) d_Mo_count_113 (by decide) ?_
  obtain rfl := o_ret h
  exact g_iret (pc := 115) C d_Mo_count_115
set_option maxRecDepth 20000 in
theorem k_Mo_count (l : Launch) {I : HI} {J : HJ} {N : HN} {a0 : Nat} {p1 : Int32} {r : HJ × Int32} (ha0 : gk Tm nM a0 (0, 11)) (h : Mo_count I N a0 p1 J = some r) : gM l y_Mo_count c_Mo_count 2 (some .int) rm_Mo_count Tm nM I J N (fun ad => [.ref (ad a0), .int p1]) (I, r.1, N, fun _ => some (.int r.2)) :=
  g_meth (lv := fun ad => [(0, .ref (ad a0)), (1, .int p1)]) (by decide) (fun _ => Nat.le_of_ble_eq_true rfl) (fun _ => rfl) (fun X ad C => g_lv [0, 1] rfl (w_Mo_count_0 C ha0 h))
theorem d_Mo_ladderTells_0 : decode c_Mo_ladderTells 0 = .ok (.lload_n 1, 1) := by decide +kernel
theorem d_Mo_ladderTells_1 : decode c_Mo_ladderTells 1 = .ok (.lstore_n 3, 1) := by decide +kernel
theorem d_Mo_ladderTells_2 : decode c_Mo_ladderTells 2 = .ok (.iconst 0, 1) := by decide +kernel
theorem d_Mo_ladderTells_3 : decode c_Mo_ladderTells 3 = .ok (.istore 5, 2) := by decide +kernel
theorem d_Mo_ladderTells_5 : decode c_Mo_ladderTells 5 = .ok (.iload 5, 2) := by decide +kernel
theorem d_Mo_ladderTells_7 : decode c_Mo_ladderTells 7 = .ok (.iconst 5, 1) := by decide +kernel
theorem d_Mo_ladderTells_8 : decode c_Mo_ladderTells 8 = .ok (.aload_n 0, 1) := by decide +kernel
theorem d_Mo_ladderTells_9 : decode c_Mo_ladderTells 9 = .ok (.getfield 159, 3) := by decide +kernel
theorem d_Mo_ladderTells_12 : decode c_Mo_ladderTells 12 = .ok (.imul, 1) := by decide +kernel
theorem d_Mo_ladderTells_13 : decode c_Mo_ladderTells 13 = .ok (.if_icmp .ge 24, 3) := by decide +kernel
theorem d_Mo_ladderTells_16 : decode c_Mo_ladderTells 16 = .ok (.ldc2_w 346, 3) := by decide +kernel
theorem d_Mo_ladderTells_19 : decode c_Mo_ladderTells 19 = .ok (.lload_n 3, 1) := by decide +kernel
theorem d_Mo_ladderTells_20 : decode c_Mo_ladderTells 20 = .ok (.lmul, 1) := by decide +kernel
theorem d_Mo_ladderTells_21 : decode c_Mo_ladderTells 21 = .ok (.aload_n 0, 1) := by decide +kernel
theorem d_Mo_ladderTells_22 : decode c_Mo_ladderTells 22 = .ok (.getfield 23, 3) := by decide +kernel
theorem d_Mo_ladderTells_25 : decode c_Mo_ladderTells 25 = .ok (.iload 5, 2) := by decide +kernel
theorem d_Mo_ladderTells_27 : decode c_Mo_ladderTells 27 = .ok (.iaload, 1) := by decide +kernel
theorem d_Mo_ladderTells_28 : decode c_Mo_ladderTells 28 = .ok (.i2l, 1) := by decide +kernel
theorem d_Mo_ladderTells_29 : decode c_Mo_ladderTells 29 = .ok (.ladd, 1) := by decide +kernel
theorem d_Mo_ladderTells_30 : decode c_Mo_ladderTells 30 = .ok (.lstore_n 3, 1) := by decide +kernel
theorem d_Mo_ladderTells_31 : decode c_Mo_ladderTells 31 = .ok (.iinc 5 1, 3) := by decide +kernel
theorem d_Mo_ladderTells_34 : decode c_Mo_ladderTells 34 = .ok (.goto (-29), 3) := by decide +kernel
theorem d_Mo_ladderTells_37 : decode c_Mo_ladderTells 37 = .ok (.aload_n 0, 1) := by decide +kernel
theorem d_Mo_ladderTells_38 : decode c_Mo_ladderTells 38 = .ok (.iconst 1, 1) := by decide +kernel
theorem d_Mo_ladderTells_39 : decode c_Mo_ladderTells 39 = .ok (.invokevirtual 312, 3) := by decide +kernel
theorem d_Mo_ladderTells_42 : decode c_Mo_ladderTells 42 = .ok (.istore 5, 2) := by decide +kernel
theorem d_Mo_ladderTells_44 : decode c_Mo_ladderTells 44 = .ok (.iconst 0, 1) := by decide +kernel
theorem d_Mo_ladderTells_45 : decode c_Mo_ladderTells 45 = .ok (.istore 6, 2) := by decide +kernel
theorem d_Mo_ladderTells_47 : decode c_Mo_ladderTells 47 = .ok (.iload 6, 2) := by decide +kernel
theorem d_Mo_ladderTells_49 : decode c_Mo_ladderTells 49 = .ok (.iload 5, 2) := by decide +kernel
theorem d_Mo_ladderTells_51 : decode c_Mo_ladderTells 51 = .ok (.if_icmp .ge 44, 3) := by decide +kernel
theorem d_Mo_ladderTells_54 : decode c_Mo_ladderTells 54 = .ok (.iconst 0, 1) := by decide +kernel
theorem d_Mo_ladderTells_55 : decode c_Mo_ladderTells 55 = .ok (.istore 7, 2) := by decide +kernel
theorem d_Mo_ladderTells_57 : decode c_Mo_ladderTells 57 = .ok (.iload 7, 2) := by decide +kernel
theorem d_Mo_ladderTells_59 : decode c_Mo_ladderTells 59 = .ok (.iconst 4, 1) := by decide +kernel
theorem d_Mo_ladderTells_60 : decode c_Mo_ladderTells 60 = .ok (.if_icmp .ge 29, 3) := by decide +kernel
theorem d_Mo_ladderTells_63 : decode c_Mo_ladderTells 63 = .ok (.ldc2_w 346, 3) := by decide +kernel
theorem d_Mo_ladderTells_66 : decode c_Mo_ladderTells 66 = .ok (.lload_n 3, 1) := by decide +kernel
theorem d_Mo_ladderTells_67 : decode c_Mo_ladderTells 67 = .ok (.lmul, 1) := by decide +kernel
theorem d_Mo_ladderTells_68 : decode c_Mo_ladderTells 68 = .ok (.aload_n 0, 1) := by decide +kernel
theorem d_Mo_ladderTells_69 : decode c_Mo_ladderTells 69 = .ok (.aload_n 0, 1) := by decide +kernel
theorem d_Mo_ladderTells_70 : decode c_Mo_ladderTells 70 = .ok (.iload 6, 2) := by decide +kernel
theorem d_Mo_ladderTells_72 : decode c_Mo_ladderTells 72 = .ok (.invokevirtual 316, 3) := by decide +kernel
theorem d_Mo_ladderTells_75 : decode c_Mo_ladderTells 75 = .ok (.iload 7, 2) := by decide +kernel
theorem d_Mo_ladderTells_77 : decode c_Mo_ladderTells 77 = .ok (.invokevirtual 319, 3) := by decide +kernel
theorem d_Mo_ladderTells_80 : decode c_Mo_ladderTells 80 = .ok (.i2l, 1) := by decide +kernel
theorem d_Mo_ladderTells_81 : decode c_Mo_ladderTells 81 = .ok (.ladd, 1) := by decide +kernel
theorem d_Mo_ladderTells_82 : decode c_Mo_ladderTells 82 = .ok (.lstore_n 3, 1) := by decide +kernel
theorem d_Mo_ladderTells_83 : decode c_Mo_ladderTells 83 = .ok (.iinc 7 1, 3) := by decide +kernel
theorem d_Mo_ladderTells_86 : decode c_Mo_ladderTells 86 = .ok (.goto (-29), 3) := by decide +kernel
theorem d_Mo_ladderTells_89 : decode c_Mo_ladderTells 89 = .ok (.iinc 6 1, 3) := by decide +kernel
theorem d_Mo_ladderTells_92 : decode c_Mo_ladderTells 92 = .ok (.goto (-45), 3) := by decide +kernel
theorem d_Mo_ladderTells_95 : decode c_Mo_ladderTells 95 = .ok (.ldc2_w 346, 3) := by decide +kernel
theorem d_Mo_ladderTells_98 : decode c_Mo_ladderTells 98 = .ok (.lload_n 3, 1) := by decide +kernel
theorem d_Mo_ladderTells_99 : decode c_Mo_ladderTells 99 = .ok (.lmul, 1) := by decide +kernel
theorem d_Mo_ladderTells_100 : decode c_Mo_ladderTells 100 = .ok (.aload_n 0, 1) := by decide +kernel
theorem d_Mo_ladderTells_101 : decode c_Mo_ladderTells 101 = .ok (.invokevirtual 348, 3) := by decide +kernel
theorem d_Mo_ladderTells_104 : decode c_Mo_ladderTells 104 = .ok (.i2l, 1) := by decide +kernel
theorem d_Mo_ladderTells_105 : decode c_Mo_ladderTells 105 = .ok (.ladd, 1) := by decide +kernel
theorem d_Mo_ladderTells_106 : decode c_Mo_ladderTells 106 = .ok (.lreturn, 1) := by decide +kernel
set_option maxRecDepth 20000 in
theorem w_Mo_ladderTells_57b {X : HX} {ad : Nat → Nat} {I : HI} {J : HJ} {N : HN} {r : Int64} {k47 : Int64 → Int32 → Int32 → Option (Int64)} {k57 : Int64 → Int32 → Int32 → Int32 → Option (Int64)} {a0 : Nat} {p1 : Int64} {x3 : Int64} {x5 : Int32} {x6 : Int32} {x7 : Int32} (C : Cx X c_Mo_ladderTells RX11 8 (some .long) rm_Mo_ladderTells) (ha0 : gk Tm nM a0 (0, 11))
    (hk47 : ∀ (x3 : Int64) (x5 : Int32) (x6 : Int32), k47 x3 x5 x6 = some r → G Tm X ad nM 0 0 I J N (gE X Tm ad nM (I, J, N, fun _ => some (.long r))) 47 8 [(0, .ref (ad a0)), (3, .long x3), (5, .int x5), (6, .int x6)] [])
    (hk57 : ∀ (x3 : Int64) (x5 : Int32) (x6 : Int32) (x7 : Int32), k57 x3 x5 x6 x7 = some r → G Tm X ad nM 0 0 I J N (gE X Tm ad nM (I, J, N, fun _ => some (.long r))) 57 8 [(0, .ref (ad a0)), (3, .long x3), (5, .int x5), (6, .int x6), (7, .int x7)] [])
    (h : Mo_ladderTells_57b I N a0 p1 k47 k57 x3 x5 x6 x7 = some r) : G Tm X ad nM 0 0 I J N (gE X Tm ad nM (I, J, N, fun _ => some (.long r))) 57 8 [(0, .ref (ad a0)), (3, .long x3), (5, .int x5), (6, .int x6), (7, .int x7)] [] := by
  refine g_iload (pc := 57) C d_Mo_ladderTells_57 4 rfl ?_
  refine g_iconst (pc := 59) C (4 : Int32) d_Mo_ladderTells_59 (by decide) ?_
  refine g_icmp_ge (pc := 60) C 89 d_Mo_ladderTells_60 rfl (fun e1 => ?_) (fun e1 => ?_)
  · have h := o_pos e1 h
    refine g_iinc (pc := 89) (q := 3) (lv' := [(6, .int (x6 + 1)), (0, .ref (ad a0)), (3, .long x3), (5, .int x5), (7, .int x7)]) C d_Mo_ladderTells_89 rfl rfl (by decide) rfl ?_
    refine g_goto (pc := 92) C 47 d_Mo_ladderTells_92 rfl ?_
    refine g_lv [1, 2, 3, 0] rfl ?_
    exact hk47 _ _ _ h
  · have h := o_neg e1 h
    refine g_ldc2 (pc := 63) C kc_Mo_346 d_Mo_ladderTells_63 ?_
    refine g_lload_n (pc := 66) C d_Mo_ladderTells_66 rfl 1 rfl ?_
    refine g_lmul (pc := 67) C d_Mo_ladderTells_67 ?_
    refine g_aload_n (pc := 68) C d_Mo_ladderTells_68 rfl 0 rfl ?_
    refine g_aload_n (pc := 69) C d_Mo_ladderTells_69 rfl 0 rfl ?_
    refine g_iload (pc := 70) C d_Mo_ladderTells_70 3 rfl ?_
    obtain ⟨r2, hc3, h⟩ := o_bn1 h
    refine g_V (pc := 72) (rest := [.ref (ad a0), .long ((31 : Int64) * x3)]) C (k_Mo_nthPart (xl X) ha0 hc3) sm_Mo_nthPart ml_Mo_316 im_Mo_nthPart se_Mo_nthPart gcX11 rfl ha0 ⟨rfl, rfl, Nat.le_of_ble_eq_true rfl, Nat.le_of_ble_eq_true rfl⟩ ⟨Nat.zero_le _, Nat.zero_le _⟩ rfl rfl (Nat.le_of_ble_eq_true rfl) d_Mo_ladderTells_72 [.int r2, .ref (ad a0), .long ((31 : Int64) * x3)] rfl ?_
    refine g_iload (pc := 75) C d_Mo_ladderTells_75 4 rfl ?_
    obtain ⟨r4, hc5, h⟩ := o_bn1 h
    refine g_V (pc := 77) (rest := [.long ((31 : Int64) * x3)]) C (k_Mo_billBy (xl X) ha0 hc5) sm_Mo_billBy ml_Mo_319 im_Mo_billBy se_Mo_billBy gcX11 rfl ha0 ⟨rfl, rfl, Nat.le_of_ble_eq_true rfl, Nat.le_of_ble_eq_true rfl⟩ ⟨Nat.zero_le _, Nat.zero_le _⟩ rfl rfl (Nat.le_of_ble_eq_true rfl) d_Mo_ladderTells_77 [.int r4, .long ((31 : Int64) * x3)] rfl ?_
    refine g_i2l (pc := 80) C d_Mo_ladderTells_80 ?_
    refine g_ladd (pc := 81) C d_Mo_ladderTells_81 ?_
    obtain ⟨v6, ev6, h⟩ := o_bd h
    refine g_topl ev6 ?_
    refine g_lstore_n (pc := 82) (lv' := [(3, .long v6), (0, .ref (ad a0)), (5, .int x5), (6, .int x6), (7, .int x7)]) C d_Mo_ladderTells_82 rfl (by decide) rfl ?_
    refine g_iinc (pc := 83) (q := 4) (lv' := [(7, .int (x7 + 1)), (3, .long v6), (0, .ref (ad a0)), (5, .int x5), (6, .int x6)]) C d_Mo_ladderTells_83 rfl rfl (by decide) rfl ?_
    refine g_goto (pc := 86) C 57 d_Mo_ladderTells_86 rfl ?_
    refine g_lv [2, 1, 3, 4, 0] rfl ?_
    exact hk57 _ _ _ _ h
set_option maxRecDepth 20000 in
theorem w_Mo_ladderTells_57 {X : HX} {ad : Nat → Nat} {I : HI} {J : HJ} {N : HN} {r : Int64} {k47 : Int64 → Int32 → Int32 → Option (Int64)} {a0 : Nat} {p1 : Int64} (C : Cx X c_Mo_ladderTells RX11 8 (some .long) rm_Mo_ladderTells) (ha0 : gk Tm nM a0 (0, 11))
    (hk47 : ∀ (x3 : Int64) (x5 : Int32) (x6 : Int32), k47 x3 x5 x6 = some r → G Tm X ad nM 0 0 I J N (gE X Tm ad nM (I, J, N, fun _ => some (.long r))) 47 8 [(0, .ref (ad a0)), (3, .long x3), (5, .int x5), (6, .int x6)] []) : ∀ (n : Nat) (x3 : Int64) (x5 : Int32) (x6 : Int32) (x7 : Int32), Mo_ladderTells_57 I N a0 p1 k47 n x3 x5 x6 x7 = some r → G Tm X ad nM 0 0 I J N (gE X Tm ad nM (I, J, N, fun _ => some (.long r))) 57 8 [(0, .ref (ad a0)), (3, .long x3), (5, .int x5), (6, .int x6), (7, .int x7)] [] := by
  intro n
  induction n with
  | zero => intro x3 x5 x6 x7 h; cases h
  | succ n ih => intro x3 x5 x6 x7 h; exact w_Mo_ladderTells_57b C ha0 hk47 ih h
set_option maxRecDepth 20000 in
theorem w_Mo_ladderTells_47b {X : HX} {ad : Nat → Nat} {I : HI} {J : HJ} {N : HN} {r : Int64} {k47 : Int64 → Int32 → Int32 → Option (Int64)} {a0 : Nat} {p1 : Int64} {x3 : Int64} {x5 : Int32} {x6 : Int32} (C : Cx X c_Mo_ladderTells RX11 8 (some .long) rm_Mo_ladderTells) (ha0 : gk Tm nM a0 (0, 11))
    (hk47 : ∀ (x3 : Int64) (x5 : Int32) (x6 : Int32), k47 x3 x5 x6 = some r → G Tm X ad nM 0 0 I J N (gE X Tm ad nM (I, J, N, fun _ => some (.long r))) 47 8 [(0, .ref (ad a0)), (3, .long x3), (5, .int x5), (6, .int x6)] [])
    (h : Mo_ladderTells_47b I N a0 p1 k47 x3 x5 x6 = some r) : G Tm X ad nM 0 0 I J N (gE X Tm ad nM (I, J, N, fun _ => some (.long r))) 47 8 [(0, .ref (ad a0)), (3, .long x3), (5, .int x5), (6, .int x6)] [] := by
  refine g_iload (pc := 47) C d_Mo_ladderTells_47 3 rfl ?_
  refine g_iload (pc := 49) C d_Mo_ladderTells_49 2 rfl ?_
  refine g_icmp_ge (pc := 51) C 95 d_Mo_ladderTells_51 rfl (fun e1 => ?_) (fun e1 => ?_)
  · have h := o_pos e1 h
    refine g_ldc2 (pc := 95) C kc_Mo_346 d_Mo_ladderTells_95 ?_
    refine g_lload_n (pc := 98) C d_Mo_ladderTells_98 rfl 1 rfl ?_
    refine g_lmul (pc := 99) C d_Mo_ladderTells_99 ?_
    refine g_aload_n (pc := 100) C d_Mo_ladderTells_100 rfl 0 rfl ?_
    obtain ⟨r2, hc3, h⟩ := o_bn1 h
    refine g_V (pc := 101) (rest := [.long ((31 : Int64) * x3)]) C (k_Mo_values (xl X) ha0 hc3) sm_Mo_values ml_Mo_348 im_Mo_values se_Mo_values gcX11 rfl ha0 ⟨rfl, rfl, Nat.le_of_ble_eq_true rfl, Nat.le_of_ble_eq_true rfl⟩ ⟨Nat.zero_le _, Nat.zero_le _⟩ rfl rfl (Nat.le_of_ble_eq_true rfl) d_Mo_ladderTells_101 [.int r2, .long ((31 : Int64) * x3)] rfl ?_
    refine g_i2l (pc := 104) C d_Mo_ladderTells_104 ?_
    refine g_ladd (pc := 105) C d_Mo_ladderTells_105 ?_
    obtain rfl := o_ret h
    exact g_lret (pc := 106) C d_Mo_ladderTells_106
  · have h := o_neg e1 h
    refine g_iconst (pc := 54) C (0 : Int32) d_Mo_ladderTells_54 (by decide) ?_
    refine g_istore (pc := 55) (lv' := [(7, .int (0 : Int32)), (0, .ref (ad a0)), (3, .long x3), (5, .int x5), (6, .int x6)]) C d_Mo_ladderTells_55 (by decide) rfl ?_
    refine g_lv [1, 2, 3, 4, 0] rfl ?_
    exact w_Mo_ladderTells_57 C ha0 hk47 _ _ _ _ _ h
set_option maxRecDepth 20000 in
theorem w_Mo_ladderTells_47 {X : HX} {ad : Nat → Nat} {I : HI} {J : HJ} {N : HN} {r : Int64} {a0 : Nat} {p1 : Int64} (C : Cx X c_Mo_ladderTells RX11 8 (some .long) rm_Mo_ladderTells) (ha0 : gk Tm nM a0 (0, 11)) : ∀ (n : Nat) (x3 : Int64) (x5 : Int32) (x6 : Int32), Mo_ladderTells_47 I N a0 p1 n x3 x5 x6 = some r → G Tm X ad nM 0 0 I J N (gE X Tm ad nM (I, J, N, fun _ => some (.long r))) 47 8 [(0, .ref (ad a0)), (3, .long x3), (5, .int x5), (6, .int x6)] [] := by
  intro n
  induction n with
  | zero => intro x3 x5 x6 h; cases h
  | succ n ih => intro x3 x5 x6 h; exact w_Mo_ladderTells_47b C ha0 ih h
set_option maxRecDepth 20000 in
theorem w_Mo_ladderTells_5b {X : HX} {ad : Nat → Nat} {I : HI} {J : HJ} {N : HN} {r : Int64} {k5 : Int64 → Int32 → Option (Int64)} {a0 : Nat} {p1 : Int64} {x3 : Int64} {x5 : Int32} (C : Cx X c_Mo_ladderTells RX11 8 (some .long) rm_Mo_ladderTells) (ha0 : gk Tm nM a0 (0, 11))
    (hk5 : ∀ (x3 : Int64) (x5 : Int32), k5 x3 x5 = some r → G Tm X ad nM 0 0 I J N (gE X Tm ad nM (I, J, N, fun _ => some (.long r))) 5 8 [(0, .ref (ad a0)), (3, .long x3), (5, .int x5)] [])
    (h : Mo_ladderTells_5b I N a0 p1 k5 x3 x5 = some r) : G Tm X ad nM 0 0 I J N (gE X Tm ad nM (I, J, N, fun _ => some (.long r))) 5 8 [(0, .ref (ad a0)), (3, .long x3), (5, .int x5)] [] := by
  refine g_iload (pc := 5) C d_Mo_ladderTells_5 2 rfl ?_
  refine g_iconst (pc := 7) C (5 : Int32) d_Mo_ladderTells_7 (by decide) ?_
  refine g_aload_n (pc := 8) C d_Mo_ladderTells_8 rfl 0 rfl ?_
  refine g_get (pc := 9) (k := 6) (v := .int (I a0 6)) C gcX11 inX11 (by decide) fl_Mo_159 ha0 rfl d_Mo_ladderTells_9 ?_
  refine g_imul (pc := 12) C d_Mo_ladderTells_12 ?_
  refine g_icmp_ge (pc := 13) C 37 d_Mo_ladderTells_13 rfl (fun e1 => ?_) (fun e1 => ?_)
  · have h := o_pos e1 h
    refine g_aload_n (pc := 37) C d_Mo_ladderTells_37 rfl 0 rfl ?_
    refine g_iconst (pc := 38) C (1 : Int32) d_Mo_ladderTells_38 (by decide) ?_
    obtain ⟨r2, hc3, h⟩ := o_bn1 h
    refine g_V (pc := 39) (rest := []) C (k_Mo_parts (xl X) ha0 hc3) sm_Mo_parts ml_Mo_312 im_Mo_parts se_Mo_parts gcX11 rfl ha0 ⟨rfl, rfl, Nat.le_of_ble_eq_true rfl, Nat.le_of_ble_eq_true rfl⟩ ⟨Nat.zero_le _, Nat.zero_le _⟩ rfl rfl (Nat.le_of_ble_eq_true rfl) d_Mo_ladderTells_39 [.int r2] rfl ?_
    refine g_istore (pc := 42) (lv' := [(5, .int r2), (0, .ref (ad a0)), (3, .long x3)]) C d_Mo_ladderTells_42 (by decide) rfl ?_
    refine g_iconst (pc := 44) C (0 : Int32) d_Mo_ladderTells_44 (by decide) ?_
    refine g_istore (pc := 45) (lv' := [(6, .int (0 : Int32)), (5, .int r2), (0, .ref (ad a0)), (3, .long x3)]) C d_Mo_ladderTells_45 (by decide) rfl ?_
    refine g_lv [2, 3, 1, 0] rfl ?_
    exact w_Mo_ladderTells_47 C ha0 _ _ _ _ h
  · have h := o_neg e1 h
    refine g_ldc2 (pc := 16) C kc_Mo_346 d_Mo_ladderTells_16 ?_
    refine g_lload_n (pc := 19) C d_Mo_ladderTells_19 rfl 1 rfl ?_
    refine g_lmul (pc := 20) C d_Mo_ladderTells_20 ?_
    refine g_aload_n (pc := 21) C d_Mo_ladderTells_21 rfl 0 rfl ?_
    obtain ⟨b4, hnb4, hb4, h⟩ := o_ra h
    refine g_get (pc := 22) (k := 5) (v := va_rf ((N a0 5).map ad)) C gcX11 inX11 (by decide) fl_Mo_23 ha0 rfl d_Mo_ladderTells_22 ?_
    refine g_top (g_rf hnb4) ?_
    refine g_iload (pc := 25) C d_Mo_ladderTells_25 2 rfl ?_
    obtain ⟨hi5, h⟩ := o_gd h
    refine g_iald (pc := 27) C hb4 hi5 d_Mo_ladderTells_27 ?_
    refine g_i2l (pc := 28) C d_Mo_ladderTells_28 ?_
    refine g_ladd (pc := 29) C d_Mo_ladderTells_29 ?_
    obtain ⟨v6, ev6, h⟩ := o_bd h
    refine g_topl ev6 ?_
    refine g_lstore_n (pc := 30) (lv' := [(3, .long v6), (0, .ref (ad a0)), (5, .int x5)]) C d_Mo_ladderTells_30 rfl (by decide) rfl ?_
    refine g_iinc (pc := 31) (q := 2) (lv' := [(5, .int (x5 + 1)), (3, .long v6), (0, .ref (ad a0))]) C d_Mo_ladderTells_31 rfl rfl (by decide) rfl ?_
    refine g_goto (pc := 34) C 5 d_Mo_ladderTells_34 rfl ?_
    refine g_lv [2, 1, 0] rfl ?_
    exact hk5 _ _ h
set_option maxRecDepth 20000 in
theorem w_Mo_ladderTells_5 {X : HX} {ad : Nat → Nat} {I : HI} {J : HJ} {N : HN} {r : Int64} {a0 : Nat} {p1 : Int64} (C : Cx X c_Mo_ladderTells RX11 8 (some .long) rm_Mo_ladderTells) (ha0 : gk Tm nM a0 (0, 11)) : ∀ (n : Nat) (x3 : Int64) (x5 : Int32), Mo_ladderTells_5 I N a0 p1 n x3 x5 = some r → G Tm X ad nM 0 0 I J N (gE X Tm ad nM (I, J, N, fun _ => some (.long r))) 5 8 [(0, .ref (ad a0)), (3, .long x3), (5, .int x5)] [] := by
  intro n
  induction n with
  | zero => intro x3 x5 h; cases h
  | succ n ih => intro x3 x5 h; exact w_Mo_ladderTells_5b C ha0 ih h
set_option maxRecDepth 20000 in
theorem w_Mo_ladderTells_0 {X : HX} {ad : Nat → Nat} {I : HI} {J : HJ} {N : HN} {r : Int64} {a0 : Nat} {p1 : Int64} (C : Cx X c_Mo_ladderTells RX11 8 (some .long) rm_Mo_ladderTells) (ha0 : gk Tm nM a0 (0, 11))
    (h : Mo_ladderTells_0 I N a0 p1 = some r) : G Tm X ad nM 0 0 I J N (gE X Tm ad nM (I, J, N, fun _ => some (.long r))) 0 8 [(0, .ref (ad a0)), (1, .long p1)] [] := by
  refine g_lload_n (pc := 0) C d_Mo_ladderTells_0 rfl 1 rfl ?_
  refine g_lstore_n (pc := 1) (lv' := [(3, .long p1), (0, .ref (ad a0)), (1, .long p1)]) C d_Mo_ladderTells_1 rfl (by decide) rfl ?_
  refine g_iconst (pc := 2) C (0 : Int32) d_Mo_ladderTells_2 (by decide) ?_
  refine g_istore (pc := 3) (lv' := [(5, .int (0 : Int32)), (3, .long p1), (0, .ref (ad a0)), (1, .long p1)]) C d_Mo_ladderTells_3 (by decide) rfl ?_
  refine g_lv [2, 1, 0] rfl ?_
  exact w_Mo_ladderTells_5 C ha0 _ _ _ h
set_option maxRecDepth 20000 in
theorem k_Mo_ladderTells (l : Launch) {I : HI} {J : HJ} {N : HN} {a0 : Nat} {p1 : Int64} {r : Int64} (ha0 : gk Tm nM a0 (0, 11)) (h : Mo_ladderTells I N a0 p1 = some r) : gM l y_Mo_ladderTells c_Mo_ladderTells 8 (some .long) rm_Mo_ladderTells Tm nM I J N (fun ad => [.ref (ad a0), .long p1]) (I, J, N, fun _ => some (.long r)) :=
  g_meth (lv := fun ad => [(0, .ref (ad a0)), (1, .long p1)]) (by decide) (fun _ => Nat.le_of_ble_eq_true rfl) (fun _ => rfl) (fun X ad C => g_lv [0, 1] rfl (w_Mo_ladderTells_0 C ha0 h))
theorem d_Mo_digest_0 : decode c_Mo_digest 0 = .ok (.ldc2_w 351, 3) := by decide +kernel
theorem d_Mo_digest_3 : decode c_Mo_digest 3 = .ok (.lstore_n 1, 1) := by decide +kernel
theorem d_Mo_digest_4 : decode c_Mo_digest 4 = .ok (.iconst 0, 1) := by decide +kernel
theorem d_Mo_digest_5 : decode c_Mo_digest 5 = .ok (.istore_n 3, 1) := by decide +kernel
theorem d_Mo_digest_6 : decode c_Mo_digest 6 = .ok (.iload_n 3, 1) := by decide +kernel
theorem d_Mo_digest_7 : decode c_Mo_digest 7 = .ok (.bipush 8, 2) := by decide +kernel
theorem d_Mo_digest_9 : decode c_Mo_digest 9 = .ok (.if_icmp .ge 22, 3) := by decide +kernel
theorem d_Mo_digest_12 : decode c_Mo_digest 12 = .ok (.ldc2_w 346, 3) := by decide +kernel
theorem d_Mo_digest_15 : decode c_Mo_digest 15 = .ok (.lload_n 1, 1) := by decide +kernel
theorem d_Mo_digest_16 : decode c_Mo_digest 16 = .ok (.lmul, 1) := by decide +kernel
theorem d_Mo_digest_17 : decode c_Mo_digest 17 = .ok (.aload_n 0, 1) := by decide +kernel
theorem d_Mo_digest_18 : decode c_Mo_digest 18 = .ok (.iload_n 3, 1) := by decide +kernel
theorem d_Mo_digest_19 : decode c_Mo_digest 19 = .ok (.invokevirtual 353, 3) := by decide +kernel
theorem d_Mo_digest_22 : decode c_Mo_digest 22 = .ok (.i2l, 1) := by decide +kernel
theorem d_Mo_digest_23 : decode c_Mo_digest 23 = .ok (.ladd, 1) := by decide +kernel
theorem d_Mo_digest_24 : decode c_Mo_digest 24 = .ok (.lstore_n 1, 1) := by decide +kernel
theorem d_Mo_digest_25 : decode c_Mo_digest 25 = .ok (.iinc 3 1, 3) := by decide +kernel
theorem d_Mo_digest_28 : decode c_Mo_digest 28 = .ok (.goto (-22), 3) := by decide +kernel
theorem d_Mo_digest_31 : decode c_Mo_digest 31 = .ok (.aload_n 0, 1) := by decide +kernel
theorem d_Mo_digest_32 : decode c_Mo_digest 32 = .ok (.invokevirtual 285, 3) := by decide +kernel
theorem d_Mo_digest_35 : decode c_Mo_digest 35 = .ok (.iconst 0, 1) := by decide +kernel
theorem d_Mo_digest_36 : decode c_Mo_digest 36 = .ok (.istore_n 3, 1) := by decide +kernel
theorem d_Mo_digest_37 : decode c_Mo_digest 37 = .ok (.iload_n 3, 1) := by decide +kernel
theorem d_Mo_digest_38 : decode c_Mo_digest 38 = .ok (.bipush 7, 2) := by decide +kernel
theorem d_Mo_digest_40 : decode c_Mo_digest 40 = .ok (.if_icmp .ge 66, 3) := by decide +kernel
theorem d_Mo_digest_43 : decode c_Mo_digest 43 = .ok (.ldc2_w 346, 3) := by decide +kernel
theorem d_Mo_digest_46 : decode c_Mo_digest 46 = .ok (.lload_n 1, 1) := by decide +kernel
theorem d_Mo_digest_47 : decode c_Mo_digest 47 = .ok (.lmul, 1) := by decide +kernel
theorem d_Mo_digest_48 : decode c_Mo_digest 48 = .ok (.aload_n 0, 1) := by decide +kernel
theorem d_Mo_digest_49 : decode c_Mo_digest 49 = .ok (.getfield 20, 3) := by decide +kernel
theorem d_Mo_digest_52 : decode c_Mo_digest 52 = .ok (.iload_n 3, 1) := by decide +kernel
theorem d_Mo_digest_53 : decode c_Mo_digest 53 = .ok (.iaload, 1) := by decide +kernel
theorem d_Mo_digest_54 : decode c_Mo_digest 54 = .ok (.i2l, 1) := by decide +kernel
theorem d_Mo_digest_55 : decode c_Mo_digest 55 = .ok (.ladd, 1) := by decide +kernel
theorem d_Mo_digest_56 : decode c_Mo_digest 56 = .ok (.lstore_n 1, 1) := by decide +kernel
theorem d_Mo_digest_57 : decode c_Mo_digest 57 = .ok (.ldc2_w 346, 3) := by decide +kernel
theorem d_Mo_digest_60 : decode c_Mo_digest 60 = .ok (.lload_n 1, 1) := by decide +kernel
theorem d_Mo_digest_61 : decode c_Mo_digest 61 = .ok (.lmul, 1) := by decide +kernel
theorem d_Mo_digest_62 : decode c_Mo_digest 62 = .ok (.aload_n 0, 1) := by decide +kernel
theorem d_Mo_digest_63 : decode c_Mo_digest 63 = .ok (.getfield 20, 3) := by decide +kernel
theorem d_Mo_digest_66 : decode c_Mo_digest 66 = .ok (.bipush 7, 2) := by decide +kernel
theorem d_Mo_digest_68 : decode c_Mo_digest 68 = .ok (.iload_n 3, 1) := by decide +kernel
theorem d_Mo_digest_69 : decode c_Mo_digest 69 = .ok (.iadd, 1) := by decide +kernel
theorem d_Mo_digest_70 : decode c_Mo_digest 70 = .ok (.iaload, 1) := by decide +kernel
theorem d_Mo_digest_71 : decode c_Mo_digest 71 = .ok (.i2l, 1) := by decide +kernel
theorem d_Mo_digest_72 : decode c_Mo_digest 72 = .ok (.ladd, 1) := by decide +kernel
theorem d_Mo_digest_73 : decode c_Mo_digest 73 = .ok (.lstore_n 1, 1) := by decide +kernel
theorem d_Mo_digest_74 : decode c_Mo_digest 74 = .ok (.ldc2_w 346, 3) := by decide +kernel
theorem d_Mo_digest_77 : decode c_Mo_digest 77 = .ok (.lload_n 1, 1) := by decide +kernel
theorem d_Mo_digest_78 : decode c_Mo_digest 78 = .ok (.lmul, 1) := by decide +kernel
theorem d_Mo_digest_79 : decode c_Mo_digest 79 = .ok (.aload_n 0, 1) := by decide +kernel
theorem d_Mo_digest_80 : decode c_Mo_digest 80 = .ok (.iconst 0, 1) := by decide +kernel
theorem d_Mo_digest_81 : decode c_Mo_digest 81 = .ok (.iload_n 3, 1) := by decide +kernel
theorem d_Mo_digest_82 : decode c_Mo_digest 82 = .ok (.invokevirtual 288, 3) := by decide +kernel
theorem d_Mo_digest_85 : decode c_Mo_digest 85 = .ok (.ladd, 1) := by decide +kernel
theorem d_Mo_digest_86 : decode c_Mo_digest 86 = .ok (.lstore_n 1, 1) := by decide +kernel
theorem d_Mo_digest_87 : decode c_Mo_digest 87 = .ok (.ldc2_w 346, 3) := by decide +kernel
theorem d_Mo_digest_90 : decode c_Mo_digest 90 = .ok (.lload_n 1, 1) := by decide +kernel
theorem d_Mo_digest_91 : decode c_Mo_digest 91 = .ok (.lmul, 1) := by decide +kernel
theorem d_Mo_digest_92 : decode c_Mo_digest 92 = .ok (.aload_n 0, 1) := by decide +kernel
theorem d_Mo_digest_93 : decode c_Mo_digest 93 = .ok (.iconst 1, 1) := by decide +kernel
theorem d_Mo_digest_94 : decode c_Mo_digest 94 = .ok (.iload_n 3, 1) := by decide +kernel
theorem d_Mo_digest_95 : decode c_Mo_digest 95 = .ok (.invokevirtual 288, 3) := by decide +kernel
theorem d_Mo_digest_98 : decode c_Mo_digest 98 = .ok (.ladd, 1) := by decide +kernel
theorem d_Mo_digest_99 : decode c_Mo_digest 99 = .ok (.lstore_n 1, 1) := by decide +kernel
theorem d_Mo_digest_100 : decode c_Mo_digest 100 = .ok (.iinc 3 1, 3) := by decide +kernel
theorem d_Mo_digest_103 : decode c_Mo_digest 103 = .ok (.goto (-66), 3) := by decide +kernel
theorem d_Mo_digest_106 : decode c_Mo_digest 106 = .ok (.iconst 0, 1) := by decide +kernel
theorem d_Mo_digest_107 : decode c_Mo_digest 107 = .ok (.istore_n 3, 1) := by decide +kernel
theorem d_Mo_digest_108 : decode c_Mo_digest 108 = .ok (.iload_n 3, 1) := by decide +kernel
theorem d_Mo_digest_109 : decode c_Mo_digest 109 = .ok (.iconst 5, 1) := by decide +kernel
theorem d_Mo_digest_110 : decode c_Mo_digest 110 = .ok (.if_icmp .ge 22, 3) := by decide +kernel
theorem d_Mo_digest_113 : decode c_Mo_digest 113 = .ok (.ldc2_w 346, 3) := by decide +kernel
theorem d_Mo_digest_116 : decode c_Mo_digest 116 = .ok (.lload_n 1, 1) := by decide +kernel
theorem d_Mo_digest_117 : decode c_Mo_digest 117 = .ok (.lmul, 1) := by decide +kernel
theorem d_Mo_digest_118 : decode c_Mo_digest 118 = .ok (.aload_n 0, 1) := by decide +kernel
theorem d_Mo_digest_119 : decode c_Mo_digest 119 = .ok (.iload_n 3, 1) := by decide +kernel
theorem d_Mo_digest_120 : decode c_Mo_digest 120 = .ok (.invokevirtual 141, 3) := by decide +kernel
theorem d_Mo_digest_123 : decode c_Mo_digest 123 = .ok (.i2l, 1) := by decide +kernel
theorem d_Mo_digest_124 : decode c_Mo_digest 124 = .ok (.ladd, 1) := by decide +kernel
theorem d_Mo_digest_125 : decode c_Mo_digest 125 = .ok (.lstore_n 1, 1) := by decide +kernel
theorem d_Mo_digest_126 : decode c_Mo_digest 126 = .ok (.iinc 3 1, 3) := by decide +kernel
theorem d_Mo_digest_129 : decode c_Mo_digest 129 = .ok (.goto (-21), 3) := by decide +kernel
theorem d_Mo_digest_132 : decode c_Mo_digest 132 = .ok (.iconst 0, 1) := by decide +kernel
theorem d_Mo_digest_133 : decode c_Mo_digest 133 = .ok (.istore_n 3, 1) := by decide +kernel
theorem d_Mo_digest_134 : decode c_Mo_digest 134 = .ok (.iload_n 3, 1) := by decide +kernel
theorem d_Mo_digest_135 : decode c_Mo_digest 135 = .ok (.iconst 4, 1) := by decide +kernel
theorem d_Mo_digest_136 : decode c_Mo_digest 136 = .ok (.if_icmp .ge 22, 3) := by decide +kernel
theorem d_Mo_digest_139 : decode c_Mo_digest 139 = .ok (.ldc2_w 346, 3) := by decide +kernel
theorem d_Mo_digest_142 : decode c_Mo_digest 142 = .ok (.lload_n 1, 1) := by decide +kernel
theorem d_Mo_digest_143 : decode c_Mo_digest 143 = .ok (.lmul, 1) := by decide +kernel
theorem d_Mo_digest_144 : decode c_Mo_digest 144 = .ok (.aload_n 0, 1) := by decide +kernel
theorem d_Mo_digest_145 : decode c_Mo_digest 145 = .ok (.iload_n 3, 1) := by decide +kernel
theorem d_Mo_digest_146 : decode c_Mo_digest 146 = .ok (.invokevirtual 270, 3) := by decide +kernel
theorem d_Mo_digest_149 : decode c_Mo_digest 149 = .ok (.i2l, 1) := by decide +kernel
theorem d_Mo_digest_150 : decode c_Mo_digest 150 = .ok (.ladd, 1) := by decide +kernel
theorem d_Mo_digest_151 : decode c_Mo_digest 151 = .ok (.lstore_n 1, 1) := by decide +kernel
theorem d_Mo_digest_152 : decode c_Mo_digest 152 = .ok (.iinc 3 1, 3) := by decide +kernel
theorem d_Mo_digest_155 : decode c_Mo_digest 155 = .ok (.goto (-21), 3) := by decide +kernel
theorem d_Mo_digest_158 : decode c_Mo_digest 158 = .ok (.iconst 0, 1) := by decide +kernel
theorem d_Mo_digest_159 : decode c_Mo_digest 159 = .ok (.istore_n 3, 1) := by decide +kernel
theorem d_Mo_digest_160 : decode c_Mo_digest 160 = .ok (.iload_n 3, 1) := by decide +kernel
theorem d_Mo_digest_161 : decode c_Mo_digest 161 = .ok (.iconst 2, 1) := by decide +kernel
theorem d_Mo_digest_162 : decode c_Mo_digest 162 = .ok (.if_icmp .ge 23, 3) := by decide +kernel
theorem d_Mo_digest_165 : decode c_Mo_digest 165 = .ok (.ldc2_w 346, 3) := by decide +kernel
theorem d_Mo_digest_168 : decode c_Mo_digest 168 = .ok (.lload_n 1, 1) := by decide +kernel
theorem d_Mo_digest_169 : decode c_Mo_digest 169 = .ok (.lmul, 1) := by decide +kernel
theorem d_Mo_digest_170 : decode c_Mo_digest 170 = .ok (.aload_n 0, 1) := by decide +kernel
theorem d_Mo_digest_171 : decode c_Mo_digest 171 = .ok (.iconst 1, 1) := by decide +kernel
theorem d_Mo_digest_172 : decode c_Mo_digest 172 = .ok (.iconst 1, 1) := by decide +kernel
theorem d_Mo_digest_173 : decode c_Mo_digest 173 = .ok (.iload_n 3, 1) := by decide +kernel
theorem d_Mo_digest_174 : decode c_Mo_digest 174 = .ok (.invokevirtual 156, 3) := by decide +kernel
theorem d_Mo_digest_177 : decode c_Mo_digest 177 = .ok (.ladd, 1) := by decide +kernel
theorem d_Mo_digest_178 : decode c_Mo_digest 178 = .ok (.lstore_n 1, 1) := by decide +kernel
theorem d_Mo_digest_179 : decode c_Mo_digest 179 = .ok (.iinc 3 1, 3) := by decide +kernel
theorem d_Mo_digest_182 : decode c_Mo_digest 182 = .ok (.goto (-22), 3) := by decide +kernel
theorem d_Mo_digest_185 : decode c_Mo_digest 185 = .ok (.iconst 0, 1) := by decide +kernel
theorem d_Mo_digest_186 : decode c_Mo_digest 186 = .ok (.istore_n 3, 1) := by decide +kernel
theorem d_Mo_digest_187 : decode c_Mo_digest 187 = .ok (.iload_n 3, 1) := by decide +kernel
theorem d_Mo_digest_188 : decode c_Mo_digest 188 = .ok (.iconst 2, 1) := by decide +kernel
theorem d_Mo_digest_189 : decode c_Mo_digest 189 = .ok (.if_icmp .ge 23, 3) := by decide +kernel
theorem d_Mo_digest_192 : decode c_Mo_digest 192 = .ok (.ldc2_w 346, 3) := by decide +kernel
theorem d_Mo_digest_195 : decode c_Mo_digest 195 = .ok (.lload_n 1, 1) := by decide +kernel
theorem d_Mo_digest_196 : decode c_Mo_digest 196 = .ok (.lmul, 1) := by decide +kernel
theorem d_Mo_digest_197 : decode c_Mo_digest 197 = .ok (.aload_n 0, 1) := by decide +kernel
theorem d_Mo_digest_198 : decode c_Mo_digest 198 = .ok (.iconst 3, 1) := by decide +kernel
theorem d_Mo_digest_199 : decode c_Mo_digest 199 = .ok (.iconst 2, 1) := by decide +kernel
theorem d_Mo_digest_200 : decode c_Mo_digest 200 = .ok (.iload_n 3, 1) := by decide +kernel
theorem d_Mo_digest_201 : decode c_Mo_digest 201 = .ok (.invokevirtual 156, 3) := by decide +kernel
theorem d_Mo_digest_204 : decode c_Mo_digest 204 = .ok (.ladd, 1) := by decide +kernel
theorem d_Mo_digest_205 : decode c_Mo_digest 205 = .ok (.lstore_n 1, 1) := by decide +kernel
theorem d_Mo_digest_206 : decode c_Mo_digest 206 = .ok (.iinc 3 1, 3) := by decide +kernel
theorem d_Mo_digest_209 : decode c_Mo_digest 209 = .ok (.goto (-22), 3) := by decide +kernel
theorem d_Mo_digest_212 : decode c_Mo_digest 212 = .ok (.aload_n 0, 1) := by decide +kernel
theorem d_Mo_digest_213 : decode c_Mo_digest 213 = .ok (.lload_n 1, 1) := by decide +kernel
theorem d_Mo_digest_214 : decode c_Mo_digest 214 = .ok (.invokevirtual 356, 3) := by decide +kernel
theorem d_Mo_digest_217 : decode c_Mo_digest 217 = .ok (.lstore_n 1, 1) := by decide +kernel
theorem d_Mo_digest_218 : decode c_Mo_digest 218 = .ok (.ldc2_w 346, 3) := by decide +kernel
theorem d_Mo_digest_221 : decode c_Mo_digest 221 = .ok (.lload_n 1, 1) := by decide +kernel
theorem d_Mo_digest_222 : decode c_Mo_digest 222 = .ok (.lmul, 1) := by decide +kernel
theorem d_Mo_digest_223 : decode c_Mo_digest 223 = .ok (.aload_n 0, 1) := by decide +kernel
theorem d_Mo_digest_224 : decode c_Mo_digest 224 = .ok (.invokevirtual 328, 3) := by decide +kernel
theorem d_Mo_digest_227 : decode c_Mo_digest 227 = .ok (.i2l, 1) := by decide +kernel
theorem d_Mo_digest_228 : decode c_Mo_digest 228 = .ok (.ladd, 1) := by decide +kernel
theorem d_Mo_digest_229 : decode c_Mo_digest 229 = .ok (.lstore_n 1, 1) := by decide +kernel
theorem d_Mo_digest_230 : decode c_Mo_digest 230 = .ok (.iconst 0, 1) := by decide +kernel
theorem d_Mo_digest_231 : decode c_Mo_digest 231 = .ok (.istore_n 3, 1) := by decide +kernel
theorem d_Mo_digest_232 : decode c_Mo_digest 232 = .ok (.iload_n 3, 1) := by decide +kernel
theorem d_Mo_digest_233 : decode c_Mo_digest 233 = .ok (.aload_n 0, 1) := by decide +kernel
theorem d_Mo_digest_234 : decode c_Mo_digest 234 = .ok (.getfield 325, 3) := by decide +kernel
theorem d_Mo_digest_237 : decode c_Mo_digest 237 = .ok (.if_icmp .ge 40, 3) := by decide +kernel
theorem d_Mo_digest_240 : decode c_Mo_digest 240 = .ok (.iconst 0, 1) := by decide +kernel
theorem d_Mo_digest_241 : decode c_Mo_digest 241 = .ok (.istore 4, 2) := by decide +kernel
theorem d_Mo_digest_243 : decode c_Mo_digest 243 = .ok (.iload 4, 2) := by decide +kernel
theorem d_Mo_digest_245 : decode c_Mo_digest 245 = .ok (.bipush 15, 2) := by decide +kernel
theorem d_Mo_digest_247 : decode c_Mo_digest 247 = .ok (.if_icmp .ge 24, 3) := by decide +kernel
theorem d_Mo_digest_250 : decode c_Mo_digest 250 = .ok (.ldc2_w 346, 3) := by decide +kernel
theorem d_Mo_digest_253 : decode c_Mo_digest 253 = .ok (.lload_n 1, 1) := by decide +kernel
theorem d_Mo_digest_254 : decode c_Mo_digest 254 = .ok (.lmul, 1) := by decide +kernel
theorem d_Mo_digest_255 : decode c_Mo_digest 255 = .ok (.aload_n 0, 1) := by decide +kernel
theorem d_Mo_digest_256 : decode c_Mo_digest 256 = .ok (.iload_n 3, 1) := by decide +kernel
theorem d_Mo_digest_257 : decode c_Mo_digest 257 = .ok (.iload 4, 2) := by decide +kernel
theorem d_Mo_digest_259 : decode c_Mo_digest 259 = .ok (.invokevirtual 331, 3) := by decide +kernel
theorem d_Mo_digest_262 : decode c_Mo_digest 262 = .ok (.i2l, 1) := by decide +kernel
theorem d_Mo_digest_263 : decode c_Mo_digest 263 = .ok (.ladd, 1) := by decide +kernel
theorem d_Mo_digest_264 : decode c_Mo_digest 264 = .ok (.lstore_n 1, 1) := by decide +kernel
theorem d_Mo_digest_265 : decode c_Mo_digest 265 = .ok (.iinc 4 1, 3) := by decide +kernel
theorem d_Mo_digest_268 : decode c_Mo_digest 268 = .ok (.goto (-25), 3) := by decide +kernel
theorem d_Mo_digest_271 : decode c_Mo_digest 271 = .ok (.iinc 3 1, 3) := by decide +kernel
theorem d_Mo_digest_274 : decode c_Mo_digest 274 = .ok (.goto (-42), 3) := by decide +kernel
theorem d_Mo_digest_277 : decode c_Mo_digest 277 = .ok (.lload_n 1, 1) := by decide +kernel
theorem d_Mo_digest_278 : decode c_Mo_digest 278 = .ok (.lreturn, 1) := by decide +kernel
set_option maxRecDepth 20000 in
theorem w_Mo_digest_243b {X : HX} {ad : Nat → Nat} {I : HI} {J : HJ} {N : HN} {r : HI × HJ × Int64} {k232 : HI → HJ → Int64 → Int32 → Option (HI × HJ × Int64)} {k243 : HI → HJ → Int64 → Int32 → Int32 → Option (HI × HJ × Int64)} {a0 : Nat} {x1 : Int64} {x3 : Int32} {x4 : Int32} (C : Cx X c_Mo_digest RX11 5 (some .long) rm_Mo_digest) (ha0 : gk Tm nM a0 (0, 11))
    (hk232 : ∀ (I : HI) (J : HJ) (x1 : Int64) (x3 : Int32), k232 I J x1 x3 = some r → G Tm X ad nM 0 0 I J N (gE X Tm ad nM (r.1, r.2.1, N, fun _ => some (.long r.2.2))) 232 5 [(0, .ref (ad a0)), (1, .long x1), (3, .int x3)] [])
    (hk243 : ∀ (I : HI) (J : HJ) (x1 : Int64) (x3 : Int32) (x4 : Int32), k243 I J x1 x3 x4 = some r → G Tm X ad nM 0 0 I J N (gE X Tm ad nM (r.1, r.2.1, N, fun _ => some (.long r.2.2))) 243 5 [(0, .ref (ad a0)), (1, .long x1), (3, .int x3), (4, .int x4)] [])
    (h : Mo_digest_243b N a0 k232 k243 I J x1 x3 x4 = some r) : G Tm X ad nM 0 0 I J N (gE X Tm ad nM (r.1, r.2.1, N, fun _ => some (.long r.2.2))) 243 5 [(0, .ref (ad a0)), (1, .long x1), (3, .int x3), (4, .int x4)] [] := by
  refine g_iload (pc := 243) C d_Mo_digest_243 3 rfl ?_
  refine g_bipush (pc := 245) C (15 : Int32) d_Mo_digest_245 (by decide) ?_
  refine g_icmp_ge (pc := 247) C 271 d_Mo_digest_247 rfl (fun e1 => ?_) (fun e1 => ?_)
  · have h := o_pos e1 h
    refine g_iinc (pc := 271) (q := 2) (lv' := [(3, .int (x3 + 1)), (0, .ref (ad a0)), (1, .long x1), (4, .int x4)]) C d_Mo_digest_271 rfl rfl (by decide) rfl ?_
    refine g_goto (pc := 274) C 232 d_Mo_digest_274 rfl ?_
    refine g_lv [1, 2, 0] rfl ?_
    exact hk232 _ _ _ _ h
  · have h := o_neg e1 h
    refine g_ldc2 (pc := 250) C kc_Mo_346 d_Mo_digest_250 ?_
    refine g_lload_n (pc := 253) C d_Mo_digest_253 rfl 1 rfl ?_
    refine g_lmul (pc := 254) C d_Mo_digest_254 ?_
    refine g_aload_n (pc := 255) C d_Mo_digest_255 rfl 0 rfl ?_
    refine g_iload_n (pc := 256) C d_Mo_digest_256 rfl 2 rfl ?_
    refine g_iload (pc := 257) C d_Mo_digest_257 3 rfl ?_
    obtain ⟨r2, hc3, h⟩ := o_bn1 h
    refine g_V (pc := 259) (rest := [.long ((31 : Int64) * x1)]) C (k_Mo_keptBy (xl X) ha0 hc3) sm_Mo_keptBy ml_Mo_331 im_Mo_keptBy se_Mo_keptBy gcX11 rfl ha0 ⟨rfl, rfl, Nat.le_of_ble_eq_true rfl, Nat.le_of_ble_eq_true rfl⟩ ⟨Nat.zero_le _, Nat.zero_le _⟩ rfl rfl (Nat.le_of_ble_eq_true rfl) d_Mo_digest_259 [.int r2, .long ((31 : Int64) * x1)] rfl ?_
    refine g_i2l (pc := 262) C d_Mo_digest_262 ?_
    refine g_ladd (pc := 263) C d_Mo_digest_263 ?_
    obtain ⟨v4, ev4, h⟩ := o_bd h
    refine g_topl ev4 ?_
    refine g_lstore_n (pc := 264) (lv' := [(1, .long v4), (0, .ref (ad a0)), (3, .int x3), (4, .int x4)]) C d_Mo_digest_264 rfl (by decide) rfl ?_
    refine g_iinc (pc := 265) (q := 3) (lv' := [(4, .int (x4 + 1)), (1, .long v4), (0, .ref (ad a0)), (3, .int x3)]) C d_Mo_digest_265 rfl rfl (by decide) rfl ?_
    refine g_goto (pc := 268) C 243 d_Mo_digest_268 rfl ?_
    refine g_lv [2, 1, 3, 0] rfl ?_
    exact hk243 _ _ _ _ _ h
set_option maxRecDepth 20000 in
theorem w_Mo_digest_243 {X : HX} {ad : Nat → Nat} {N : HN} {r : HI × HJ × Int64} {k232 : HI → HJ → Int64 → Int32 → Option (HI × HJ × Int64)} {a0 : Nat} (C : Cx X c_Mo_digest RX11 5 (some .long) rm_Mo_digest) (ha0 : gk Tm nM a0 (0, 11))
    (hk232 : ∀ (I : HI) (J : HJ) (x1 : Int64) (x3 : Int32), k232 I J x1 x3 = some r → G Tm X ad nM 0 0 I J N (gE X Tm ad nM (r.1, r.2.1, N, fun _ => some (.long r.2.2))) 232 5 [(0, .ref (ad a0)), (1, .long x1), (3, .int x3)] []) : ∀ (n : Nat) (I : HI) (J : HJ) (x1 : Int64) (x3 : Int32) (x4 : Int32), Mo_digest_243 N a0 k232 n I J x1 x3 x4 = some r → G Tm X ad nM 0 0 I J N (gE X Tm ad nM (r.1, r.2.1, N, fun _ => some (.long r.2.2))) 243 5 [(0, .ref (ad a0)), (1, .long x1), (3, .int x3), (4, .int x4)] [] := by
  intro n
  induction n with
  | zero => intro I J x1 x3 x4 h; cases h
  | succ n ih => intro I J x1 x3 x4 h; exact w_Mo_digest_243b C ha0 hk232 ih h
set_option maxRecDepth 20000 in
theorem w_Mo_digest_232b {X : HX} {ad : Nat → Nat} {I : HI} {J : HJ} {N : HN} {r : HI × HJ × Int64} {k232 : HI → HJ → Int64 → Int32 → Option (HI × HJ × Int64)} {a0 : Nat} {x1 : Int64} {x3 : Int32} (C : Cx X c_Mo_digest RX11 5 (some .long) rm_Mo_digest) (ha0 : gk Tm nM a0 (0, 11))
    (hk232 : ∀ (I : HI) (J : HJ) (x1 : Int64) (x3 : Int32), k232 I J x1 x3 = some r → G Tm X ad nM 0 0 I J N (gE X Tm ad nM (r.1, r.2.1, N, fun _ => some (.long r.2.2))) 232 5 [(0, .ref (ad a0)), (1, .long x1), (3, .int x3)] [])
    (h : Mo_digest_232b N a0 k232 I J x1 x3 = some r) : G Tm X ad nM 0 0 I J N (gE X Tm ad nM (r.1, r.2.1, N, fun _ => some (.long r.2.2))) 232 5 [(0, .ref (ad a0)), (1, .long x1), (3, .int x3)] [] := by
  refine g_iload_n (pc := 232) C d_Mo_digest_232 rfl 2 rfl ?_
  refine g_aload_n (pc := 233) C d_Mo_digest_233 rfl 0 rfl ?_
  refine g_get (pc := 234) (k := 31) (v := .int (I a0 31)) C gcX11 inX11 (by decide) fl_Mo_325 ha0 rfl d_Mo_digest_234 ?_
  refine g_icmp_ge (pc := 237) C 277 d_Mo_digest_237 rfl (fun e1 => ?_) (fun e1 => ?_)
  · have h := o_pos e1 h
    refine g_lload_n (pc := 277) C d_Mo_digest_277 rfl 1 rfl ?_
    obtain rfl := o_ret h
    exact g_lret (pc := 278) C d_Mo_digest_278
  · have h := o_neg e1 h
    refine g_iconst (pc := 240) C (0 : Int32) d_Mo_digest_240 (by decide) ?_
    refine g_istore (pc := 241) (lv' := [(4, .int (0 : Int32)), (0, .ref (ad a0)), (1, .long x1), (3, .int x3)]) C d_Mo_digest_241 (by decide) rfl ?_
    refine g_lv [1, 2, 3, 0] rfl ?_
    exact w_Mo_digest_243 C ha0 hk232 _ _ _ _ _ _ h
set_option maxRecDepth 20000 in
theorem w_Mo_digest_232 {X : HX} {ad : Nat → Nat} {N : HN} {r : HI × HJ × Int64} {a0 : Nat} (C : Cx X c_Mo_digest RX11 5 (some .long) rm_Mo_digest) (ha0 : gk Tm nM a0 (0, 11)) : ∀ (n : Nat) (I : HI) (J : HJ) (x1 : Int64) (x3 : Int32), Mo_digest_232 N a0 n I J x1 x3 = some r → G Tm X ad nM 0 0 I J N (gE X Tm ad nM (r.1, r.2.1, N, fun _ => some (.long r.2.2))) 232 5 [(0, .ref (ad a0)), (1, .long x1), (3, .int x3)] [] := by
  intro n
  induction n with
  | zero => intro I J x1 x3 h; cases h
  | succ n ih => intro I J x1 x3 h; exact w_Mo_digest_232b C ha0 ih h
set_option maxRecDepth 20000 in
theorem w_Mo_digest_187b {X : HX} {ad : Nat → Nat} {I : HI} {J : HJ} {N : HN} {r : HI × HJ × Int64} {k187 : HI → HJ → Int64 → Int32 → Option (HI × HJ × Int64)} {a0 : Nat} {x1 : Int64} {x3 : Int32} (C : Cx X c_Mo_digest RX11 5 (some .long) rm_Mo_digest) (ha0 : gk Tm nM a0 (0, 11))
    (hk187 : ∀ (I : HI) (J : HJ) (x1 : Int64) (x3 : Int32), k187 I J x1 x3 = some r → G Tm X ad nM 0 0 I J N (gE X Tm ad nM (r.1, r.2.1, N, fun _ => some (.long r.2.2))) 187 5 [(0, .ref (ad a0)), (1, .long x1), (3, .int x3)] [])
    (h : Mo_digest_187b N a0 k187 I J x1 x3 = some r) : G Tm X ad nM 0 0 I J N (gE X Tm ad nM (r.1, r.2.1, N, fun _ => some (.long r.2.2))) 187 5 [(0, .ref (ad a0)), (1, .long x1), (3, .int x3)] [] := by
  refine g_iload_n (pc := 187) C d_Mo_digest_187 rfl 2 rfl ?_
  refine g_iconst (pc := 188) C (2 : Int32) d_Mo_digest_188 (by decide) ?_
  refine g_icmp_ge (pc := 189) C 212 d_Mo_digest_189 rfl (fun e1 => ?_) (fun e1 => ?_)
  · have h := o_pos e1 h
    refine g_aload_n (pc := 212) C d_Mo_digest_212 rfl 0 rfl ?_
    refine g_lload_n (pc := 213) C d_Mo_digest_213 rfl 1 rfl ?_
    obtain ⟨r2, hc3, h⟩ := o_bn1 h
    refine g_V (pc := 214) (rest := []) C (k_Mo_ladderTells (xl X) ha0 hc3) sm_Mo_ladderTells ml_Mo_356 im_Mo_ladderTells se_Mo_ladderTells gcX11 rfl ha0 ⟨rfl, rfl, Nat.le_of_ble_eq_true rfl, Nat.le_of_ble_eq_true rfl⟩ ⟨Nat.zero_le _, Nat.zero_le _⟩ rfl rfl (Nat.le_of_ble_eq_true rfl) d_Mo_digest_214 [.long r2] rfl ?_
    refine g_lstore_n (pc := 217) (lv' := [(1, .long r2), (0, .ref (ad a0)), (3, .int x3)]) C d_Mo_digest_217 rfl (by decide) rfl ?_
    refine g_ldc2 (pc := 218) C kc_Mo_346 d_Mo_digest_218 ?_
    refine g_lload_n (pc := 221) C d_Mo_digest_221 rfl 0 rfl ?_
    refine g_lmul (pc := 222) C d_Mo_digest_222 ?_
    refine g_aload_n (pc := 223) C d_Mo_digest_223 rfl 1 rfl ?_
    obtain ⟨I4, J5, r6, hc7, h⟩ := o_bn3 h
    refine g_V (pc := 224) (rest := [.long ((31 : Int64) * r2)]) C (k_Mo_found (xl X) ha0 hc7) sm_Mo_found ml_Mo_328 im_Mo_found se_Mo_found gcX11 rfl ha0 ⟨rfl, rfl, Nat.le_of_ble_eq_true rfl, Nat.le_of_ble_eq_true rfl⟩ ⟨Nat.zero_le _, Nat.zero_le _⟩ rfl rfl (Nat.le_of_ble_eq_true rfl) d_Mo_digest_224 [.int r6, .long ((31 : Int64) * r2)] rfl ?_
    refine g_i2l (pc := 227) C d_Mo_digest_227 ?_
    refine g_ladd (pc := 228) C d_Mo_digest_228 ?_
    obtain ⟨v8, ev8, h⟩ := o_bd h
    refine g_topl ev8 ?_
    refine g_lstore_n (pc := 229) (lv' := [(1, .long v8), (0, .ref (ad a0)), (3, .int x3)]) C d_Mo_digest_229 rfl (by decide) rfl ?_
    refine g_iconst (pc := 230) C (0 : Int32) d_Mo_digest_230 (by decide) ?_
    refine g_istore_n (pc := 231) (lv' := [(3, .int (0 : Int32)), (1, .long v8), (0, .ref (ad a0))]) C d_Mo_digest_231 rfl (by decide) rfl ?_
    refine g_lv [2, 1, 0] rfl ?_
    exact w_Mo_digest_232 C ha0 _ _ _ _ _ h
  · have h := o_neg e1 h
    refine g_ldc2 (pc := 192) C kc_Mo_346 d_Mo_digest_192 ?_
    refine g_lload_n (pc := 195) C d_Mo_digest_195 rfl 1 rfl ?_
    refine g_lmul (pc := 196) C d_Mo_digest_196 ?_
    refine g_aload_n (pc := 197) C d_Mo_digest_197 rfl 0 rfl ?_
    refine g_iconst (pc := 198) C (3 : Int32) d_Mo_digest_198 (by decide) ?_
    refine g_iconst (pc := 199) C (2 : Int32) d_Mo_digest_199 (by decide) ?_
    refine g_iload_n (pc := 200) C d_Mo_digest_200 rfl 2 rfl ?_
    obtain ⟨r9, hc10, h⟩ := o_bn1 h
    refine g_V (pc := 201) (rest := [.long ((31 : Int64) * x1)]) C (k_Mo_reactanceBy (xl X) ha0 hc10) sm_Mo_reactanceBy ml_Mo_156 im_Mo_reactanceBy se_Mo_reactanceBy gcX11 rfl ha0 ⟨rfl, rfl, Nat.le_of_ble_eq_true rfl, Nat.le_of_ble_eq_true rfl⟩ ⟨Nat.zero_le _, Nat.zero_le _⟩ rfl rfl (Nat.le_of_ble_eq_true rfl) d_Mo_digest_201 [.long r9, .long ((31 : Int64) * x1)] rfl ?_
    refine g_ladd (pc := 204) C d_Mo_digest_204 ?_
    obtain ⟨v11, ev11, h⟩ := o_bd h
    refine g_topl ev11 ?_
    refine g_lstore_n (pc := 205) (lv' := [(1, .long v11), (0, .ref (ad a0)), (3, .int x3)]) C d_Mo_digest_205 rfl (by decide) rfl ?_
    refine g_iinc (pc := 206) (q := 2) (lv' := [(3, .int (x3 + 1)), (1, .long v11), (0, .ref (ad a0))]) C d_Mo_digest_206 rfl rfl (by decide) rfl ?_
    refine g_goto (pc := 209) C 187 d_Mo_digest_209 rfl ?_
    refine g_lv [2, 1, 0] rfl ?_
    exact hk187 _ _ _ _ h
set_option maxRecDepth 20000 in
theorem w_Mo_digest_187 {X : HX} {ad : Nat → Nat} {N : HN} {r : HI × HJ × Int64} {a0 : Nat} (C : Cx X c_Mo_digest RX11 5 (some .long) rm_Mo_digest) (ha0 : gk Tm nM a0 (0, 11)) : ∀ (n : Nat) (I : HI) (J : HJ) (x1 : Int64) (x3 : Int32), Mo_digest_187 N a0 n I J x1 x3 = some r → G Tm X ad nM 0 0 I J N (gE X Tm ad nM (r.1, r.2.1, N, fun _ => some (.long r.2.2))) 187 5 [(0, .ref (ad a0)), (1, .long x1), (3, .int x3)] [] := by
  intro n
  induction n with
  | zero => intro I J x1 x3 h; cases h
  | succ n ih => intro I J x1 x3 h; exact w_Mo_digest_187b C ha0 ih h
set_option maxRecDepth 20000 in
theorem w_Mo_digest_160b {X : HX} {ad : Nat → Nat} {I : HI} {J : HJ} {N : HN} {r : HI × HJ × Int64} {k160 : HI → HJ → Int64 → Int32 → Option (HI × HJ × Int64)} {a0 : Nat} {x1 : Int64} {x3 : Int32} (C : Cx X c_Mo_digest RX11 5 (some .long) rm_Mo_digest) (ha0 : gk Tm nM a0 (0, 11))
    (hk160 : ∀ (I : HI) (J : HJ) (x1 : Int64) (x3 : Int32), k160 I J x1 x3 = some r → G Tm X ad nM 0 0 I J N (gE X Tm ad nM (r.1, r.2.1, N, fun _ => some (.long r.2.2))) 160 5 [(0, .ref (ad a0)), (1, .long x1), (3, .int x3)] [])
    (h : Mo_digest_160b N a0 k160 I J x1 x3 = some r) : G Tm X ad nM 0 0 I J N (gE X Tm ad nM (r.1, r.2.1, N, fun _ => some (.long r.2.2))) 160 5 [(0, .ref (ad a0)), (1, .long x1), (3, .int x3)] [] := by
  refine g_iload_n (pc := 160) C d_Mo_digest_160 rfl 2 rfl ?_
  refine g_iconst (pc := 161) C (2 : Int32) d_Mo_digest_161 (by decide) ?_
  refine g_icmp_ge (pc := 162) C 185 d_Mo_digest_162 rfl (fun e1 => ?_) (fun e1 => ?_)
  · have h := o_pos e1 h
    refine g_iconst (pc := 185) C (0 : Int32) d_Mo_digest_185 (by decide) ?_
    refine g_istore_n (pc := 186) (lv' := [(3, .int (0 : Int32)), (0, .ref (ad a0)), (1, .long x1)]) C d_Mo_digest_186 rfl (by decide) rfl ?_
    refine g_lv [1, 2, 0] rfl ?_
    exact w_Mo_digest_187 C ha0 _ _ _ _ _ h
  · have h := o_neg e1 h
    refine g_ldc2 (pc := 165) C kc_Mo_346 d_Mo_digest_165 ?_
    refine g_lload_n (pc := 168) C d_Mo_digest_168 rfl 1 rfl ?_
    refine g_lmul (pc := 169) C d_Mo_digest_169 ?_
    refine g_aload_n (pc := 170) C d_Mo_digest_170 rfl 0 rfl ?_
    refine g_iconst (pc := 171) C (1 : Int32) d_Mo_digest_171 (by decide) ?_
    refine g_iconst (pc := 172) C (1 : Int32) d_Mo_digest_172 (by decide) ?_
    refine g_iload_n (pc := 173) C d_Mo_digest_173 rfl 2 rfl ?_
    obtain ⟨r2, hc3, h⟩ := o_bn1 h
    refine g_V (pc := 174) (rest := [.long ((31 : Int64) * x1)]) C (k_Mo_reactanceBy (xl X) ha0 hc3) sm_Mo_reactanceBy ml_Mo_156 im_Mo_reactanceBy se_Mo_reactanceBy gcX11 rfl ha0 ⟨rfl, rfl, Nat.le_of_ble_eq_true rfl, Nat.le_of_ble_eq_true rfl⟩ ⟨Nat.zero_le _, Nat.zero_le _⟩ rfl rfl (Nat.le_of_ble_eq_true rfl) d_Mo_digest_174 [.long r2, .long ((31 : Int64) * x1)] rfl ?_
    refine g_ladd (pc := 177) C d_Mo_digest_177 ?_
    obtain ⟨v4, ev4, h⟩ := o_bd h
    refine g_topl ev4 ?_
    refine g_lstore_n (pc := 178) (lv' := [(1, .long v4), (0, .ref (ad a0)), (3, .int x3)]) C d_Mo_digest_178 rfl (by decide) rfl ?_
    refine g_iinc (pc := 179) (q := 2) (lv' := [(3, .int (x3 + 1)), (1, .long v4), (0, .ref (ad a0))]) C d_Mo_digest_179 rfl rfl (by decide) rfl ?_
    refine g_goto (pc := 182) C 160 d_Mo_digest_182 rfl ?_
    refine g_lv [2, 1, 0] rfl ?_
    exact hk160 _ _ _ _ h
set_option maxRecDepth 20000 in
theorem w_Mo_digest_160 {X : HX} {ad : Nat → Nat} {N : HN} {r : HI × HJ × Int64} {a0 : Nat} (C : Cx X c_Mo_digest RX11 5 (some .long) rm_Mo_digest) (ha0 : gk Tm nM a0 (0, 11)) : ∀ (n : Nat) (I : HI) (J : HJ) (x1 : Int64) (x3 : Int32), Mo_digest_160 N a0 n I J x1 x3 = some r → G Tm X ad nM 0 0 I J N (gE X Tm ad nM (r.1, r.2.1, N, fun _ => some (.long r.2.2))) 160 5 [(0, .ref (ad a0)), (1, .long x1), (3, .int x3)] [] := by
  intro n
  induction n with
  | zero => intro I J x1 x3 h; cases h
  | succ n ih => intro I J x1 x3 h; exact w_Mo_digest_160b C ha0 ih h
set_option maxRecDepth 20000 in
theorem w_Mo_digest_134b {X : HX} {ad : Nat → Nat} {I : HI} {J : HJ} {N : HN} {r : HI × HJ × Int64} {k134 : HI → HJ → Int64 → Int32 → Option (HI × HJ × Int64)} {a0 : Nat} {x1 : Int64} {x3 : Int32} (C : Cx X c_Mo_digest RX11 5 (some .long) rm_Mo_digest) (ha0 : gk Tm nM a0 (0, 11))
    (hk134 : ∀ (I : HI) (J : HJ) (x1 : Int64) (x3 : Int32), k134 I J x1 x3 = some r → G Tm X ad nM 0 0 I J N (gE X Tm ad nM (r.1, r.2.1, N, fun _ => some (.long r.2.2))) 134 5 [(0, .ref (ad a0)), (1, .long x1), (3, .int x3)] [])
    (h : Mo_digest_134b N a0 k134 I J x1 x3 = some r) : G Tm X ad nM 0 0 I J N (gE X Tm ad nM (r.1, r.2.1, N, fun _ => some (.long r.2.2))) 134 5 [(0, .ref (ad a0)), (1, .long x1), (3, .int x3)] [] := by
  refine g_iload_n (pc := 134) C d_Mo_digest_134 rfl 2 rfl ?_
  refine g_iconst (pc := 135) C (4 : Int32) d_Mo_digest_135 (by decide) ?_
  refine g_icmp_ge (pc := 136) C 158 d_Mo_digest_136 rfl (fun e1 => ?_) (fun e1 => ?_)
  · have h := o_pos e1 h
    refine g_iconst (pc := 158) C (0 : Int32) d_Mo_digest_158 (by decide) ?_
    refine g_istore_n (pc := 159) (lv' := [(3, .int (0 : Int32)), (0, .ref (ad a0)), (1, .long x1)]) C d_Mo_digest_159 rfl (by decide) rfl ?_
    refine g_lv [1, 2, 0] rfl ?_
    exact w_Mo_digest_160 C ha0 _ _ _ _ _ h
  · have h := o_neg e1 h
    refine g_ldc2 (pc := 139) C kc_Mo_346 d_Mo_digest_139 ?_
    refine g_lload_n (pc := 142) C d_Mo_digest_142 rfl 1 rfl ?_
    refine g_lmul (pc := 143) C d_Mo_digest_143 ?_
    refine g_aload_n (pc := 144) C d_Mo_digest_144 rfl 0 rfl ?_
    refine g_iload_n (pc := 145) C d_Mo_digest_145 rfl 2 rfl ?_
    obtain ⟨I2, J3, r4, hc5, h⟩ := o_bn3 h
    refine g_V (pc := 146) (rest := [.long ((31 : Int64) * x1)]) C (k_Mo_unfolds (xl X) ha0 hc5) sm_Mo_unfolds ml_Mo_270 im_Mo_unfolds se_Mo_unfolds gcX11 rfl ha0 ⟨rfl, rfl, Nat.le_of_ble_eq_true rfl, Nat.le_of_ble_eq_true rfl⟩ ⟨Nat.zero_le _, Nat.zero_le _⟩ rfl rfl (Nat.le_of_ble_eq_true rfl) d_Mo_digest_146 [.int r4, .long ((31 : Int64) * x1)] rfl ?_
    refine g_i2l (pc := 149) C d_Mo_digest_149 ?_
    refine g_ladd (pc := 150) C d_Mo_digest_150 ?_
    obtain ⟨v6, ev6, h⟩ := o_bd h
    refine g_topl ev6 ?_
    refine g_lstore_n (pc := 151) (lv' := [(1, .long v6), (0, .ref (ad a0)), (3, .int x3)]) C d_Mo_digest_151 rfl (by decide) rfl ?_
    refine g_iinc (pc := 152) (q := 2) (lv' := [(3, .int (x3 + 1)), (1, .long v6), (0, .ref (ad a0))]) C d_Mo_digest_152 rfl rfl (by decide) rfl ?_
    refine g_goto (pc := 155) C 134 d_Mo_digest_155 rfl ?_
    refine g_lv [2, 1, 0] rfl ?_
    exact hk134 _ _ _ _ h
set_option maxRecDepth 20000 in
theorem w_Mo_digest_134 {X : HX} {ad : Nat → Nat} {N : HN} {r : HI × HJ × Int64} {a0 : Nat} (C : Cx X c_Mo_digest RX11 5 (some .long) rm_Mo_digest) (ha0 : gk Tm nM a0 (0, 11)) : ∀ (n : Nat) (I : HI) (J : HJ) (x1 : Int64) (x3 : Int32), Mo_digest_134 N a0 n I J x1 x3 = some r → G Tm X ad nM 0 0 I J N (gE X Tm ad nM (r.1, r.2.1, N, fun _ => some (.long r.2.2))) 134 5 [(0, .ref (ad a0)), (1, .long x1), (3, .int x3)] [] := by
  intro n
  induction n with
  | zero => intro I J x1 x3 h; cases h
  | succ n ih => intro I J x1 x3 h; exact w_Mo_digest_134b C ha0 ih h
set_option maxRecDepth 20000 in
theorem w_Mo_digest_108b {X : HX} {ad : Nat → Nat} {I : HI} {J : HJ} {N : HN} {r : HI × HJ × Int64} {k108 : HI → HJ → Int64 → Int32 → Option (HI × HJ × Int64)} {a0 : Nat} {x1 : Int64} {x3 : Int32} (C : Cx X c_Mo_digest RX11 5 (some .long) rm_Mo_digest) (ha0 : gk Tm nM a0 (0, 11))
    (hk108 : ∀ (I : HI) (J : HJ) (x1 : Int64) (x3 : Int32), k108 I J x1 x3 = some r → G Tm X ad nM 0 0 I J N (gE X Tm ad nM (r.1, r.2.1, N, fun _ => some (.long r.2.2))) 108 5 [(0, .ref (ad a0)), (1, .long x1), (3, .int x3)] [])
    (h : Mo_digest_108b N a0 k108 I J x1 x3 = some r) : G Tm X ad nM 0 0 I J N (gE X Tm ad nM (r.1, r.2.1, N, fun _ => some (.long r.2.2))) 108 5 [(0, .ref (ad a0)), (1, .long x1), (3, .int x3)] [] := by
  refine g_iload_n (pc := 108) C d_Mo_digest_108 rfl 2 rfl ?_
  refine g_iconst (pc := 109) C (5 : Int32) d_Mo_digest_109 (by decide) ?_
  refine g_icmp_ge (pc := 110) C 132 d_Mo_digest_110 rfl (fun e1 => ?_) (fun e1 => ?_)
  · have h := o_pos e1 h
    refine g_iconst (pc := 132) C (0 : Int32) d_Mo_digest_132 (by decide) ?_
    refine g_istore_n (pc := 133) (lv' := [(3, .int (0 : Int32)), (0, .ref (ad a0)), (1, .long x1)]) C d_Mo_digest_133 rfl (by decide) rfl ?_
    refine g_lv [1, 2, 0] rfl ?_
    exact w_Mo_digest_134 C ha0 _ _ _ _ _ h
  · have h := o_neg e1 h
    refine g_ldc2 (pc := 113) C kc_Mo_346 d_Mo_digest_113 ?_
    refine g_lload_n (pc := 116) C d_Mo_digest_116 rfl 1 rfl ?_
    refine g_lmul (pc := 117) C d_Mo_digest_117 ?_
    refine g_aload_n (pc := 118) C d_Mo_digest_118 rfl 0 rfl ?_
    refine g_iload_n (pc := 119) C d_Mo_digest_119 rfl 2 rfl ?_
    obtain ⟨r2, hc3, h⟩ := o_bn1 h
    refine g_V (pc := 120) (rest := [.long ((31 : Int64) * x1)]) C (k_Mo_infoBy (xl X) ha0 hc3) sm_Mo_infoBy ml_Mo_141 im_Mo_infoBy se_Mo_infoBy gcX11 rfl ha0 ⟨rfl, rfl, Nat.le_of_ble_eq_true rfl, Nat.le_of_ble_eq_true rfl⟩ ⟨Nat.zero_le _, Nat.zero_le _⟩ rfl rfl (Nat.le_of_ble_eq_true rfl) d_Mo_digest_120 [.int r2, .long ((31 : Int64) * x1)] rfl ?_
    refine g_i2l (pc := 123) C d_Mo_digest_123 ?_
    refine g_ladd (pc := 124) C d_Mo_digest_124 ?_
    obtain ⟨v4, ev4, h⟩ := o_bd h
    refine g_topl ev4 ?_
    refine g_lstore_n (pc := 125) (lv' := [(1, .long v4), (0, .ref (ad a0)), (3, .int x3)]) C d_Mo_digest_125 rfl (by decide) rfl ?_
    refine g_iinc (pc := 126) (q := 2) (lv' := [(3, .int (x3 + 1)), (1, .long v4), (0, .ref (ad a0))]) C d_Mo_digest_126 rfl rfl (by decide) rfl ?_
    refine g_goto (pc := 129) C 108 d_Mo_digest_129 rfl ?_
    refine g_lv [2, 1, 0] rfl ?_
    exact hk108 _ _ _ _ h
set_option maxRecDepth 20000 in
theorem w_Mo_digest_108 {X : HX} {ad : Nat → Nat} {N : HN} {r : HI × HJ × Int64} {a0 : Nat} (C : Cx X c_Mo_digest RX11 5 (some .long) rm_Mo_digest) (ha0 : gk Tm nM a0 (0, 11)) : ∀ (n : Nat) (I : HI) (J : HJ) (x1 : Int64) (x3 : Int32), Mo_digest_108 N a0 n I J x1 x3 = some r → G Tm X ad nM 0 0 I J N (gE X Tm ad nM (r.1, r.2.1, N, fun _ => some (.long r.2.2))) 108 5 [(0, .ref (ad a0)), (1, .long x1), (3, .int x3)] [] := by
  intro n
  induction n with
  | zero => intro I J x1 x3 h; cases h
  | succ n ih => intro I J x1 x3 h; exact w_Mo_digest_108b C ha0 ih h
set_option maxRecDepth 20000 in
theorem w_Mo_digest_37b {X : HX} {ad : Nat → Nat} {I : HI} {J : HJ} {N : HN} {r : HI × HJ × Int64} {k37 : HI → HJ → Int64 → Int32 → Option (HI × HJ × Int64)} {a0 : Nat} {x1 : Int64} {x3 : Int32} (C : Cx X c_Mo_digest RX11 5 (some .long) rm_Mo_digest) (ha0 : gk Tm nM a0 (0, 11))
    (hk37 : ∀ (I : HI) (J : HJ) (x1 : Int64) (x3 : Int32), k37 I J x1 x3 = some r → G Tm X ad nM 0 0 I J N (gE X Tm ad nM (r.1, r.2.1, N, fun _ => some (.long r.2.2))) 37 5 [(0, .ref (ad a0)), (1, .long x1), (3, .int x3)] [])
    (h : Mo_digest_37b N a0 k37 I J x1 x3 = some r) : G Tm X ad nM 0 0 I J N (gE X Tm ad nM (r.1, r.2.1, N, fun _ => some (.long r.2.2))) 37 5 [(0, .ref (ad a0)), (1, .long x1), (3, .int x3)] [] := by
  refine g_iload_n (pc := 37) C d_Mo_digest_37 rfl 2 rfl ?_
  refine g_bipush (pc := 38) C (7 : Int32) d_Mo_digest_38 (by decide) ?_
  refine g_icmp_ge (pc := 40) C 106 d_Mo_digest_40 rfl (fun e1 => ?_) (fun e1 => ?_)
  · have h := o_pos e1 h
    refine g_iconst (pc := 106) C (0 : Int32) d_Mo_digest_106 (by decide) ?_
    refine g_istore_n (pc := 107) (lv' := [(3, .int (0 : Int32)), (0, .ref (ad a0)), (1, .long x1)]) C d_Mo_digest_107 rfl (by decide) rfl ?_
    refine g_lv [1, 2, 0] rfl ?_
    exact w_Mo_digest_108 C ha0 _ _ _ _ _ h
  · have h := o_neg e1 h
    refine g_ldc2 (pc := 43) C kc_Mo_346 d_Mo_digest_43 ?_
    refine g_lload_n (pc := 46) C d_Mo_digest_46 rfl 1 rfl ?_
    refine g_lmul (pc := 47) C d_Mo_digest_47 ?_
    refine g_aload_n (pc := 48) C d_Mo_digest_48 rfl 0 rfl ?_
    obtain ⟨b2, hnb2, hb2, h⟩ := o_ra h
    refine g_get (pc := 49) (k := 4) (v := va_rf ((N a0 4).map ad)) C gcX11 inX11 (by decide) fl_Mo_20 ha0 rfl d_Mo_digest_49 ?_
    refine g_top (g_rf hnb2) ?_
    refine g_iload_n (pc := 52) C d_Mo_digest_52 rfl 2 rfl ?_
    obtain ⟨hi3, h⟩ := o_gd h
    refine g_iald (pc := 53) C hb2 hi3 d_Mo_digest_53 ?_
    refine g_i2l (pc := 54) C d_Mo_digest_54 ?_
    refine g_ladd (pc := 55) C d_Mo_digest_55 ?_
    obtain ⟨v4, ev4, h⟩ := o_bd h
    refine g_topl ev4 ?_
    refine g_lstore_n (pc := 56) (lv' := [(1, .long v4), (0, .ref (ad a0)), (3, .int x3)]) C d_Mo_digest_56 rfl (by decide) rfl ?_
    refine g_ldc2 (pc := 57) C kc_Mo_346 d_Mo_digest_57 ?_
    refine g_lload_n (pc := 60) C d_Mo_digest_60 rfl 0 rfl ?_
    refine g_lmul (pc := 61) C d_Mo_digest_61 ?_
    refine g_aload_n (pc := 62) C d_Mo_digest_62 rfl 1 rfl ?_
    obtain ⟨b5, hnb5, hb5, h⟩ := o_ra h
    refine g_get (pc := 63) (k := 4) (v := va_rf ((N a0 4).map ad)) C gcX11 inX11 (by decide) fl_Mo_20 ha0 rfl d_Mo_digest_63 ?_
    refine g_top (g_rf hnb5) ?_
    refine g_bipush (pc := 66) C (7 : Int32) d_Mo_digest_66 (by decide) ?_
    refine g_iload_n (pc := 68) C d_Mo_digest_68 rfl 2 rfl ?_
    refine g_iadd (pc := 69) C d_Mo_digest_69 ?_
    obtain ⟨hi6, h⟩ := o_gd h
    refine g_iald (pc := 70) C hb5 hi6 d_Mo_digest_70 ?_
    refine g_i2l (pc := 71) C d_Mo_digest_71 ?_
    refine g_ladd (pc := 72) C d_Mo_digest_72 ?_
    obtain ⟨v7, ev7, h⟩ := o_bd h
    refine g_topl ev7 ?_
    refine g_lstore_n (pc := 73) (lv' := [(1, .long v7), (0, .ref (ad a0)), (3, .int x3)]) C d_Mo_digest_73 rfl (by decide) rfl ?_
    refine g_ldc2 (pc := 74) C kc_Mo_346 d_Mo_digest_74 ?_
    refine g_lload_n (pc := 77) C d_Mo_digest_77 rfl 0 rfl ?_
    refine g_lmul (pc := 78) C d_Mo_digest_78 ?_
    refine g_aload_n (pc := 79) C d_Mo_digest_79 rfl 1 rfl ?_
    refine g_iconst (pc := 80) C (0 : Int32) d_Mo_digest_80 (by decide) ?_
    refine g_iload_n (pc := 81) C d_Mo_digest_81 rfl 2 rfl ?_
    obtain ⟨r8, hc9, h⟩ := o_bn1 h
    refine g_V (pc := 82) (rest := [.long ((31 : Int64) * v7)]) C (k_Mo_foldBy (xl X) ha0 hc9) sm_Mo_foldBy ml_Mo_288 im_Mo_foldBy se_Mo_foldBy gcX11 rfl ha0 ⟨rfl, rfl, Nat.le_of_ble_eq_true rfl, Nat.le_of_ble_eq_true rfl⟩ ⟨Nat.zero_le _, Nat.zero_le _⟩ rfl rfl (Nat.le_of_ble_eq_true rfl) d_Mo_digest_82 [.long r8, .long ((31 : Int64) * v7)] rfl ?_
    refine g_ladd (pc := 85) C d_Mo_digest_85 ?_
    obtain ⟨v10, ev10, h⟩ := o_bd h
    refine g_topl ev10 ?_
    refine g_lstore_n (pc := 86) (lv' := [(1, .long v10), (0, .ref (ad a0)), (3, .int x3)]) C d_Mo_digest_86 rfl (by decide) rfl ?_
    refine g_ldc2 (pc := 87) C kc_Mo_346 d_Mo_digest_87 ?_
    refine g_lload_n (pc := 90) C d_Mo_digest_90 rfl 0 rfl ?_
    refine g_lmul (pc := 91) C d_Mo_digest_91 ?_
    refine g_aload_n (pc := 92) C d_Mo_digest_92 rfl 1 rfl ?_
    refine g_iconst (pc := 93) C (1 : Int32) d_Mo_digest_93 (by decide) ?_
    refine g_iload_n (pc := 94) C d_Mo_digest_94 rfl 2 rfl ?_
    obtain ⟨r11, hc12, h⟩ := o_bn1 h
    refine g_V (pc := 95) (rest := [.long ((31 : Int64) * v10)]) C (k_Mo_foldBy (xl X) ha0 hc12) sm_Mo_foldBy ml_Mo_288 im_Mo_foldBy se_Mo_foldBy gcX11 rfl ha0 ⟨rfl, rfl, Nat.le_of_ble_eq_true rfl, Nat.le_of_ble_eq_true rfl⟩ ⟨Nat.zero_le _, Nat.zero_le _⟩ rfl rfl (Nat.le_of_ble_eq_true rfl) d_Mo_digest_95 [.long r11, .long ((31 : Int64) * v10)] rfl ?_
    refine g_ladd (pc := 98) C d_Mo_digest_98 ?_
    obtain ⟨v13, ev13, h⟩ := o_bd h
    refine g_topl ev13 ?_
    refine g_lstore_n (pc := 99) (lv' := [(1, .long v13), (0, .ref (ad a0)), (3, .int x3)]) C d_Mo_digest_99 rfl (by decide) rfl ?_
    refine g_iinc (pc := 100) (q := 2) (lv' := [(3, .int (x3 + 1)), (1, .long v13), (0, .ref (ad a0))]) C d_Mo_digest_100 rfl rfl (by decide) rfl ?_
    refine g_goto (pc := 103) C 37 d_Mo_digest_103 rfl ?_
    refine g_lv [2, 1, 0] rfl ?_
    exact hk37 _ _ _ _ h
set_option maxRecDepth 20000 in
theorem w_Mo_digest_37 {X : HX} {ad : Nat → Nat} {N : HN} {r : HI × HJ × Int64} {a0 : Nat} (C : Cx X c_Mo_digest RX11 5 (some .long) rm_Mo_digest) (ha0 : gk Tm nM a0 (0, 11)) : ∀ (n : Nat) (I : HI) (J : HJ) (x1 : Int64) (x3 : Int32), Mo_digest_37 N a0 n I J x1 x3 = some r → G Tm X ad nM 0 0 I J N (gE X Tm ad nM (r.1, r.2.1, N, fun _ => some (.long r.2.2))) 37 5 [(0, .ref (ad a0)), (1, .long x1), (3, .int x3)] [] := by
  intro n
  induction n with
  | zero => intro I J x1 x3 h; cases h
  | succ n ih => intro I J x1 x3 h; exact w_Mo_digest_37b C ha0 ih h
set_option maxRecDepth 20000 in
theorem w_Mo_digest_6b {X : HX} {ad : Nat → Nat} {I : HI} {J : HJ} {N : HN} {r : HI × HJ × Int64} {k6 : HI → HJ → Int64 → Int32 → Option (HI × HJ × Int64)} {a0 : Nat} {x1 : Int64} {x3 : Int32} (C : Cx X c_Mo_digest RX11 5 (some .long) rm_Mo_digest) (ha0 : gk Tm nM a0 (0, 11))
    (hk6 : ∀ (I : HI) (J : HJ) (x1 : Int64) (x3 : Int32), k6 I J x1 x3 = some r → G Tm X ad nM 0 0 I J N (gE X Tm ad nM (r.1, r.2.1, N, fun _ => some (.long r.2.2))) 6 5 [(0, .ref (ad a0)), (1, .long x1), (3, .int x3)] [])
    (h : Mo_digest_6b N a0 k6 I J x1 x3 = some r) : G Tm X ad nM 0 0 I J N (gE X Tm ad nM (r.1, r.2.1, N, fun _ => some (.long r.2.2))) 6 5 [(0, .ref (ad a0)), (1, .long x1), (3, .int x3)] [] := by
  refine g_iload_n (pc := 6) C d_Mo_digest_6 rfl 2 rfl ?_
  refine g_bipush (pc := 7) C (8 : Int32) d_Mo_digest_7 (by decide) ?_
  refine g_icmp_ge (pc := 9) C 31 d_Mo_digest_9 rfl (fun e1 => ?_) (fun e1 => ?_)
  · have h := o_pos e1 h
    refine g_aload_n (pc := 31) C d_Mo_digest_31 rfl 0 rfl ?_
    obtain ⟨J2, hc3, h⟩ := o_bn1 h
    refine g_V (pc := 32) (rest := []) C (k_Mo_folds (xl X) ha0 hc3) sm_Mo_folds ml_Mo_285 im_Mo_folds se_Mo_folds gcX11 rfl ha0 ⟨rfl, rfl, Nat.le_of_ble_eq_true rfl, Nat.le_of_ble_eq_true rfl⟩ ⟨Nat.zero_le _, Nat.zero_le _⟩ rfl rfl (Nat.le_of_ble_eq_true rfl) d_Mo_digest_32 [] rfl ?_
    refine g_iconst (pc := 35) C (0 : Int32) d_Mo_digest_35 (by decide) ?_
    refine g_istore_n (pc := 36) (lv' := [(3, .int (0 : Int32)), (0, .ref (ad a0)), (1, .long x1)]) C d_Mo_digest_36 rfl (by decide) rfl ?_
    refine g_lv [1, 2, 0] rfl ?_
    exact w_Mo_digest_37 C ha0 _ _ _ _ _ h
  · have h := o_neg e1 h
    refine g_ldc2 (pc := 12) C kc_Mo_346 d_Mo_digest_12 ?_
    refine g_lload_n (pc := 15) C d_Mo_digest_15 rfl 1 rfl ?_
    refine g_lmul (pc := 16) C d_Mo_digest_16 ?_
    refine g_aload_n (pc := 17) C d_Mo_digest_17 rfl 0 rfl ?_
    refine g_iload_n (pc := 18) C d_Mo_digest_18 rfl 2 rfl ?_
    obtain ⟨J4, r5, hc6, h⟩ := o_bn2 h
    refine g_V (pc := 19) (rest := [.long ((31 : Int64) * x1)]) C (k_Mo_count (xl X) ha0 hc6) sm_Mo_count ml_Mo_353 im_Mo_count se_Mo_count gcX11 rfl ha0 ⟨rfl, rfl, Nat.le_of_ble_eq_true rfl, Nat.le_of_ble_eq_true rfl⟩ ⟨Nat.zero_le _, Nat.zero_le _⟩ rfl rfl (Nat.le_of_ble_eq_true rfl) d_Mo_digest_19 [.int r5, .long ((31 : Int64) * x1)] rfl ?_
    refine g_i2l (pc := 22) C d_Mo_digest_22 ?_
    refine g_ladd (pc := 23) C d_Mo_digest_23 ?_
    obtain ⟨v7, ev7, h⟩ := o_bd h
    refine g_topl ev7 ?_
    refine g_lstore_n (pc := 24) (lv' := [(1, .long v7), (0, .ref (ad a0)), (3, .int x3)]) C d_Mo_digest_24 rfl (by decide) rfl ?_
    refine g_iinc (pc := 25) (q := 2) (lv' := [(3, .int (x3 + 1)), (1, .long v7), (0, .ref (ad a0))]) C d_Mo_digest_25 rfl rfl (by decide) rfl ?_
    refine g_goto (pc := 28) C 6 d_Mo_digest_28 rfl ?_
    refine g_lv [2, 1, 0] rfl ?_
    exact hk6 _ _ _ _ h
set_option maxRecDepth 20000 in
theorem w_Mo_digest_6 {X : HX} {ad : Nat → Nat} {N : HN} {r : HI × HJ × Int64} {a0 : Nat} (C : Cx X c_Mo_digest RX11 5 (some .long) rm_Mo_digest) (ha0 : gk Tm nM a0 (0, 11)) : ∀ (n : Nat) (I : HI) (J : HJ) (x1 : Int64) (x3 : Int32), Mo_digest_6 N a0 n I J x1 x3 = some r → G Tm X ad nM 0 0 I J N (gE X Tm ad nM (r.1, r.2.1, N, fun _ => some (.long r.2.2))) 6 5 [(0, .ref (ad a0)), (1, .long x1), (3, .int x3)] [] := by
  intro n
  induction n with
  | zero => intro I J x1 x3 h; cases h
  | succ n ih => intro I J x1 x3 h; exact w_Mo_digest_6b C ha0 ih h
set_option maxRecDepth 20000 in
theorem w_Mo_digest_0 {X : HX} {ad : Nat → Nat} {I : HI} {J : HJ} {N : HN} {r : HI × HJ × Int64} {a0 : Nat} (C : Cx X c_Mo_digest RX11 5 (some .long) rm_Mo_digest) (ha0 : gk Tm nM a0 (0, 11))
    (h : Mo_digest_0 N a0 I J = some r) : G Tm X ad nM 0 0 I J N (gE X Tm ad nM (r.1, r.2.1, N, fun _ => some (.long r.2.2))) 0 5 [(0, .ref (ad a0))] [] := by
  refine g_ldc2 (pc := 0) C kc_Mo_351 d_Mo_digest_0 ?_
  refine g_lstore_n (pc := 3) (lv' := [(1, .long (17 : Int64)), (0, .ref (ad a0))]) C d_Mo_digest_3 rfl (by decide) rfl ?_
  refine g_iconst (pc := 4) C (0 : Int32) d_Mo_digest_4 (by decide) ?_
  refine g_istore_n (pc := 5) (lv' := [(3, .int (0 : Int32)), (1, .long (17 : Int64)), (0, .ref (ad a0))]) C d_Mo_digest_5 rfl (by decide) rfl ?_
  refine g_lv [2, 1, 0] rfl ?_
  exact w_Mo_digest_6 C ha0 _ _ _ _ _ h
set_option maxRecDepth 20000 in
theorem k_Mo_digest (l : Launch) {I : HI} {J : HJ} {N : HN} {a0 : Nat} {r : HI × HJ × Int64} (ha0 : gk Tm nM a0 (0, 11)) (h : Mo_digest N a0 I J = some r) : gM l y_Mo_digest c_Mo_digest 5 (some .long) rm_Mo_digest Tm nM I J N (fun ad => [.ref (ad a0)]) (r.1, r.2.1, N, fun _ => some (.long r.2.2)) :=
  g_meth (lv := fun ad => [(0, .ref (ad a0))]) (by decide) (fun _ => Nat.le_of_ble_eq_true rfl) (fun _ => rfl) (fun X ad C => g_lv [0] rfl (w_Mo_digest_0 C ha0 h))
