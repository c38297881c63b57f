theorem d_Mo_read_0 : decode c_Mo_read 0 = .ok (.iload_n 1, 1) := by decide +kernel
theorem d_Mo_read_1 : decode c_Mo_read 1 = .ok (.invokestatic 95, 3) := by decide +kernel
theorem d_Mo_read_4 : decode c_Mo_read 4 = .ok (.ifCond .ne 6, 3) := by decide +kernel
theorem d_Mo_read_7 : decode c_Mo_read 7 = .ok (.bipush (-2), 2) := by decide +kernel
theorem d_Mo_read_9 : decode c_Mo_read 9 = .ok (.ireturn, 1) := by decide +kernel
theorem d_Mo_read_10 : decode c_Mo_read 10 = .ok (.aload_n 0, 1) := by decide +kernel
theorem d_Mo_read_11 : decode c_Mo_read 11 = .ok (.getfield 7, 3) := by decide +kernel
theorem d_Mo_read_14 : decode c_Mo_read 14 = .ok (.iload_n 1, 1) := by decide +kernel
theorem d_Mo_read_15 : decode c_Mo_read 15 = .ok (.iaload, 1) := by decide +kernel
theorem d_Mo_read_16 : decode c_Mo_read 16 = .ok (.iconst (-1), 1) := by decide +kernel
theorem d_Mo_read_17 : decode c_Mo_read 17 = .ok (.if_icmp .ne 9, 3) := by decide +kernel
theorem d_Mo_read_20 : decode c_Mo_read 20 = .ok (.aload_n 0, 1) := by decide +kernel
theorem d_Mo_read_21 : decode c_Mo_read 21 = .ok (.iconst 1, 1) := by decide +kernel
theorem d_Mo_read_22 : decode c_Mo_read 22 = .ok (.invokevirtual 99, 3) := by decide +kernel
theorem d_Mo_read_25 : decode c_Mo_read 25 = .ok (.ireturn, 1) := by decide +kernel
theorem d_Mo_read_26 : decode c_Mo_read 26 = .ok (.iload_n 2, 1) := by decide +kernel
theorem d_Mo_read_27 : decode c_Mo_read 27 = .ok (.ifCond .lt 20, 3) := by decide +kernel
theorem d_Mo_read_30 : decode c_Mo_read 30 = .ok (.iload_n 2, 1) := by decide +kernel
theorem d_Mo_read_31 : decode c_Mo_read 31 = .ok (.i2l, 1) := by decide +kernel
theorem d_Mo_read_32 : decode c_Mo_read 32 = .ok (.ldc2_w 134, 3) := by decide +kernel
theorem d_Mo_read_35 : decode c_Mo_read 35 = .ok (.ladd, 1) := by decide +kernel
theorem d_Mo_read_36 : decode c_Mo_read 36 = .ok (.aload_n 0, 1) := by decide +kernel
theorem d_Mo_read_37 : decode c_Mo_read 37 = .ok (.getfield 7, 3) := by decide +kernel
theorem d_Mo_read_40 : decode c_Mo_read 40 = .ok (.iload_n 1, 1) := by decide +kernel
theorem d_Mo_read_41 : decode c_Mo_read 41 = .ok (.iaload, 1) := by decide +kernel
theorem d_Mo_read_42 : decode c_Mo_read 42 = .ok (.i2l, 1) := by decide +kernel
theorem d_Mo_read_43 : decode c_Mo_read 43 = .ok (.lcmp, 1) := by decide +kernel
theorem d_Mo_read_44 : decode c_Mo_read 44 = .ok (.ifCond .le 9, 3) := by decide +kernel
theorem d_Mo_read_47 : decode c_Mo_read 47 = .ok (.aload_n 0, 1) := by decide +kernel
theorem d_Mo_read_48 : decode c_Mo_read 48 = .ok (.iconst 2, 1) := by decide +kernel
theorem d_Mo_read_49 : decode c_Mo_read 49 = .ok (.invokevirtual 99, 3) := by decide +kernel
theorem d_Mo_read_52 : decode c_Mo_read 52 = .ok (.ireturn, 1) := by decide +kernel
theorem d_Mo_read_53 : decode c_Mo_read 53 = .ok (.iconst 0, 1) := by decide +kernel
theorem d_Mo_read_54 : decode c_Mo_read 54 = .ok (.istore_n 3, 1) := by decide +kernel
theorem d_Mo_read_55 : decode c_Mo_read 55 = .ok (.iload_n 3, 1) := by decide +kernel
theorem d_Mo_read_56 : decode c_Mo_read 56 = .ok (.bipush 14, 2) := by decide +kernel
theorem d_Mo_read_58 : decode c_Mo_read 58 = .ok (.if_icmp .ge 37, 3) := by decide +kernel
theorem d_Mo_read_61 : decode c_Mo_read 61 = .ok (.aload_n 0, 1) := by decide +kernel
theorem d_Mo_read_62 : decode c_Mo_read 62 = .ok (.getfield 13, 3) := by decide +kernel
theorem d_Mo_read_65 : decode c_Mo_read 65 = .ok (.bipush 40, 2) := by decide +kernel
theorem d_Mo_read_67 : decode c_Mo_read 67 = .ok (.iload_n 1, 1) := by decide +kernel
theorem d_Mo_read_68 : decode c_Mo_read 68 = .ok (.imul, 1) := by decide +kernel
theorem d_Mo_read_69 : decode c_Mo_read 69 = .ok (.iload_n 2, 1) := by decide +kernel
theorem d_Mo_read_70 : decode c_Mo_read 70 = .ok (.iadd, 1) := by decide +kernel
theorem d_Mo_read_71 : decode c_Mo_read 71 = .ok (.iload_n 3, 1) := by decide +kernel
theorem d_Mo_read_72 : decode c_Mo_read 72 = .ok (.iadd, 1) := by decide +kernel
theorem d_Mo_read_73 : decode c_Mo_read 73 = .ok (.laload, 1) := by decide +kernel
theorem d_Mo_read_74 : decode c_Mo_read 74 = .ok (.ldc2_w 116, 3) := by decide +kernel
theorem d_Mo_read_77 : decode c_Mo_read 77 = .ok (.ldc2_w 118, 3) := by decide +kernel
theorem d_Mo_read_80 : decode c_Mo_read 80 = .ok (.invokestatic 83, 3) := by decide +kernel
theorem d_Mo_read_83 : decode c_Mo_read 83 = .ok (.ifCond .ne 6, 3) := by decide +kernel
theorem d_Mo_read_86 : decode c_Mo_read 86 = .ok (.bipush (-2), 2) := by decide +kernel
theorem d_Mo_read_88 : decode c_Mo_read 88 = .ok (.ireturn, 1) := by decide +kernel
theorem d_Mo_read_89 : decode c_Mo_read 89 = .ok (.iinc 3 1, 3) := by decide +kernel
theorem d_Mo_read_92 : decode c_Mo_read 92 = .ok (.goto (-37), 3) := by decide +kernel
theorem d_Mo_read_95 : decode c_Mo_read 95 = .ok (.iconst 0, 1) := by decide +kernel
theorem d_Mo_read_96 : decode c_Mo_read 96 = .ok (.istore_n 3, 1) := by decide +kernel
theorem d_Mo_read_97 : decode c_Mo_read 97 = .ok (.iload_n 3, 1) := by decide +kernel
theorem d_Mo_read_98 : decode c_Mo_read 98 = .ok (.bipush 14, 2) := by decide +kernel
theorem d_Mo_read_100 : decode c_Mo_read 100 = .ok (.if_icmp .ge 29, 3) := by decide +kernel
theorem d_Mo_read_103 : decode c_Mo_read 103 = .ok (.aload_n 0, 1) := by decide +kernel
theorem d_Mo_read_104 : decode c_Mo_read 104 = .ok (.getfield 20, 3) := by decide +kernel
theorem d_Mo_read_107 : decode c_Mo_read 107 = .ok (.iload_n 3, 1) := by decide +kernel
theorem d_Mo_read_108 : decode c_Mo_read 108 = .ok (.aload_n 0, 1) := by decide +kernel
theorem d_Mo_read_109 : decode c_Mo_read 109 = .ok (.getfield 13, 3) := by decide +kernel
theorem d_Mo_read_112 : decode c_Mo_read 112 = .ok (.bipush 40, 2) := by decide +kernel
theorem d_Mo_read_114 : decode c_Mo_read 114 = .ok (.iload_n 1, 1) := by decide +kernel
theorem d_Mo_read_115 : decode c_Mo_read 115 = .ok (.imul, 1) := by decide +kernel
theorem d_Mo_read_116 : decode c_Mo_read 116 = .ok (.iload_n 2, 1) := by decide +kernel
theorem d_Mo_read_117 : decode c_Mo_read 117 = .ok (.iadd, 1) := by decide +kernel
theorem d_Mo_read_118 : decode c_Mo_read 118 = .ok (.iload_n 3, 1) := by decide +kernel
theorem d_Mo_read_119 : decode c_Mo_read 119 = .ok (.iadd, 1) := by decide +kernel
theorem d_Mo_read_120 : decode c_Mo_read 120 = .ok (.laload, 1) := by decide +kernel
theorem d_Mo_read_121 : decode c_Mo_read 121 = .ok (.l2i, 1) := by decide +kernel
theorem d_Mo_read_122 : decode c_Mo_read 122 = .ok (.iastore, 1) := by decide +kernel
theorem d_Mo_read_123 : decode c_Mo_read 123 = .ok (.iinc 3 1, 3) := by decide +kernel
theorem d_Mo_read_126 : decode c_Mo_read 126 = .ok (.goto (-29), 3) := by decide +kernel
theorem d_Mo_read_129 : decode c_Mo_read 129 = .ok (.bipush 14, 2) := by decide +kernel
theorem d_Mo_read_131 : decode c_Mo_read 131 = .ok (.ireturn, 1) := by decide +kernel
set_option maxRecDepth 20000 in
theorem w_Mo_read_97b {X : HX} {ad : Nat → Nat} {I : HI} {J : HJ} {N : HN} {r : HI × Int32} {k97 : HI → Int32 → Option (HI × Int32)} {a0 : Nat} {p1 : Int32} {p2 : Int32} {x3 : Int32} (C : Cx X c_Mo_read RX11 4 (some .int) rm_Mo_read) (ha0 : gk Tm nM a0 (0, 11))
    (hk97 : ∀ (I : HI) (x3 : Int32), k97 I x3 = some r → G Tm X ad nM 0 0 I J N (gE X Tm ad nM (r.1, J, N, fun _ => some (.int r.2))) 97 4 [(0, .ref (ad a0)), (1, .int p1), (2, .int p2), (3, .int x3)] [])
    (h : Mo_read_97b J N a0 p1 p2 k97 I x3 = some r) : G Tm X ad nM 0 0 I J N (gE X Tm ad nM (r.1, J, N, fun _ => some (.int r.2))) 97 4 [(0, .ref (ad a0)), (1, .int p1), (2, .int p2), (3, .int x3)] [] := by
  refine g_iload_n (pc := 97) C d_Mo_read_97 rfl 3 rfl ?_
  refine g_bipush (pc := 98) C (14 : Int32) d_Mo_read_98 (by decide) ?_
  refine g_icmp_ge (pc := 100) C 129 d_Mo_read_100 rfl (fun e1 => ?_) (fun e1 => ?_)
  · have h := o_pos e1 h
    refine g_bipush (pc := 129) C (14 : Int32) d_Mo_read_129 (by decide) ?_
    obtain rfl := o_ret h
    exact g_iret (pc := 131) C d_Mo_read_131
  · have h := o_neg e1 h
    refine g_aload_n (pc := 103) C d_Mo_read_103 rfl 0 rfl ?_
    obtain ⟨b2, hnb2, hb2, h⟩ := o_ra h
    refine g_get (pc := 104) (k := 4) (v := va_rf ((N a0 4).map ad)) C gcX11 inX11 (by decide) fl_Mo_20 ha0 rfl d_Mo_read_104 ?_
    refine g_top (g_rf hnb2) ?_
    refine g_iload_n (pc := 107) C d_Mo_read_107 rfl 3 rfl ?_
    refine g_aload_n (pc := 108) C d_Mo_read_108 rfl 0 rfl ?_
    obtain ⟨b3, hnb3, hb3, h⟩ := o_ra h
    refine g_get (pc := 109) (k := 2) (v := va_rf ((N a0 2).map ad)) C gcX11 inX11 (by decide) fl_Mo_13 ha0 rfl d_Mo_read_109 ?_
    refine g_top (g_rf hnb3) ?_
    refine g_bipush (pc := 112) C (40 : Int32) d_Mo_read_112 (by decide) ?_
    refine g_iload_n (pc := 114) C d_Mo_read_114 rfl 1 rfl ?_
    refine g_imul (pc := 115) C d_Mo_read_115 ?_
    refine g_iload_n (pc := 116) C d_Mo_read_116 rfl 2 rfl ?_
    refine g_iadd (pc := 117) C d_Mo_read_117 ?_
    refine g_iload_n (pc := 118) C d_Mo_read_118 rfl 3 rfl ?_
    refine g_iadd (pc := 119) C d_Mo_read_119 ?_
    obtain ⟨hi4, h⟩ := o_gd h
    refine g_lald (pc := 120) C hb3 hi4 d_Mo_read_120 ?_
    refine g_l2i (pc := 121) C d_Mo_read_121 ?_
    obtain ⟨hi5, h⟩ := o_gd h
    refine g_iast (pc := 122) C hb2 hi5 d_Mo_read_122 ?_
    obtain ⟨I6, eI6, h⟩ := o_bd h
    rw [← eI6]
    refine g_iinc (pc := 123) (q := 3) (lv' := [(3, .int (x3 + 1)), (0, .ref (ad a0)), (1, .int p1), (2, .int p2)]) C d_Mo_read_123 rfl rfl (by decide) rfl ?_
    refine g_goto (pc := 126) C 97 d_Mo_read_126 rfl ?_
    refine g_lv [1, 2, 3, 0] rfl ?_
    exact hk97 _ _ h
set_option maxRecDepth 20000 in
theorem w_Mo_read_97 {X : HX} {ad : Nat → Nat} {J : HJ} {N : HN} {r : HI × Int32} {a0 : Nat} {p1 : Int32} {p2 : Int32} (C : Cx X c_Mo_read RX11 4 (some .int) rm_Mo_read) (ha0 : gk Tm nM a0 (0, 11)) : ∀ (n : Nat) (I : HI) (x3 : Int32), Mo_read_97 J N a0 p1 p2 n I x3 = some r → G Tm X ad nM 0 0 I J N (gE X Tm ad nM (r.1, J, N, fun _ => some (.int r.2))) 97 4 [(0, .ref (ad a0)), (1, .int p1), (2, .int p2), (3, .int x3)] [] := by
  intro n
  induction n with
  | zero => intro I x3 h; cases h
  | succ n ih => intro I x3 h; exact w_Mo_read_97b C ha0 ih h
set_option maxRecDepth 20000 in
theorem w_Mo_read_55b {X : HX} {ad : Nat → Nat} {I : HI} {J : HJ} {N : HN} {r : HI × Int32} {k55 : HI → Int32 → Option (HI × Int32)} {a0 : Nat} {p1 : Int32} {p2 : Int32} {x3 : Int32} (C : Cx X c_Mo_read RX11 4 (some .int) rm_Mo_read) (ha0 : gk Tm nM a0 (0, 11))
    (hk55 : ∀ (I : HI) (x3 : Int32), k55 I x3 = some r → G Tm X ad nM 0 0 I J N (gE X Tm ad nM (r.1, J, N, fun _ => some (.int r.2))) 55 4 [(0, .ref (ad a0)), (1, .int p1), (2, .int p2), (3, .int x3)] [])
    (h : Mo_read_55b J N a0 p1 p2 k55 I x3 = some r) : G Tm X ad nM 0 0 I J N (gE X Tm ad nM (r.1, J, N, fun _ => some (.int r.2))) 55 4 [(0, .ref (ad a0)), (1, .int p1), (2, .int p2), (3, .int x3)] [] := by
  refine g_iload_n (pc := 55) C d_Mo_read_55 rfl 3 rfl ?_
  refine g_bipush (pc := 56) C (14 : Int32) d_Mo_read_56 (by decide) ?_
  refine g_icmp_ge (pc := 58) C 95 d_Mo_read_58 rfl (fun e1 => ?_) (fun e1 => ?_)
  · have h := o_pos e1 h
    refine g_iconst (pc := 95) C (0 : Int32) d_Mo_read_95 (by decide) ?_
    refine g_istore_n (pc := 96) (lv' := [(3, .int (0 : Int32)), (0, .ref (ad a0)), (1, .int p1), (2, .int p2)]) C d_Mo_read_96 rfl (by decide) rfl ?_
    refine g_lv [1, 2, 3, 0] rfl ?_
    exact w_Mo_read_97 C ha0 _ _ _ h
  · have h := o_neg e1 h
    refine g_aload_n (pc := 61) C d_Mo_read_61 rfl 0 rfl ?_
    obtain ⟨b2, hnb2, hb2, h⟩ := o_ra h
    refine g_get (pc := 62) (k := 2) (v := va_rf ((N a0 2).map ad)) C gcX11 inX11 (by decide) fl_Mo_13 ha0 rfl d_Mo_read_62 ?_
    refine g_top (g_rf hnb2) ?_
    refine g_bipush (pc := 65) C (40 : Int32) d_Mo_read_65 (by decide) ?_
    refine g_iload_n (pc := 67) C d_Mo_read_67 rfl 1 rfl ?_
    refine g_imul (pc := 68) C d_Mo_read_68 ?_
    refine g_iload_n (pc := 69) C d_Mo_read_69 rfl 2 rfl ?_
    refine g_iadd (pc := 70) C d_Mo_read_70 ?_
    refine g_iload_n (pc := 71) C d_Mo_read_71 rfl 3 rfl ?_
    refine g_iadd (pc := 72) C d_Mo_read_72 ?_
    obtain ⟨hi3, h⟩ := o_gd h
    refine g_lald (pc := 73) C hb2 hi3 d_Mo_read_73 ?_
    refine g_ldc2 (pc := 74) C kc_Mo_116 d_Mo_read_74 ?_
    refine g_ldc2 (pc := 77) C kc_Mo_118 d_Mo_read_77 ?_
    obtain ⟨r4, hc5, h⟩ := o_bn1 h
    refine g_S (pc := 80) (rest := []) C (k_Mo_in (xl X)  hc5) sm_Mo_in ml_Mo_83 st_Mo_in ⟨rfl, rfl, Nat.le_of_ble_eq_true rfl, Nat.le_of_ble_eq_true rfl⟩ ⟨Nat.zero_le _, Nat.zero_le _⟩ rfl rfl (Nat.le_of_ble_eq_true rfl) d_Mo_read_80 [.int r4] rfl ?_
    refine g_if_ne (pc := 83) C 89 d_Mo_read_83 rfl (fun e6 => ?_) (fun e6 => ?_)
    · have h := o_neg e6 h
      refine g_iinc (pc := 89) (q := 3) (lv' := [(3, .int (x3 + 1)), (0, .ref (ad a0)), (1, .int p1), (2, .int p2)]) C d_Mo_read_89 rfl rfl (by decide) rfl ?_
      refine g_goto (pc := 92) C 55 d_Mo_read_92 rfl ?_
      refine g_lv [1, 2, 3, 0] rfl ?_
      exact hk55 _ _ h
    · have h := o_pos e6 h
      refine g_bipush (pc := 86) C (-2 : Int32) d_Mo_read_86 (by decide) ?_
      obtain rfl := o_ret h
      exact g_iret (pc := 88) C d_Mo_read_88
set_option maxRecDepth 20000 in
theorem w_Mo_read_55 {X : HX} {ad : Nat → Nat} {J : HJ} {N : HN} {r : HI × Int32} {a0 : Nat} {p1 : Int32} {p2 : Int32} (C : Cx X c_Mo_read RX11 4 (some .int) rm_Mo_read) (ha0 : gk Tm nM a0 (0, 11)) : ∀ (n : Nat) (I : HI) (x3 : Int32), Mo_read_55 J N a0 p1 p2 n I x3 = some r → G Tm X ad nM 0 0 I J N (gE X Tm ad nM (r.1, J, N, fun _ => some (.int r.2))) 55 4 [(0, .ref (ad a0)), (1, .int p1), (2, .int p2), (3, .int x3)] [] := by
  intro n
  induction n with
  | zero => intro I x3 h; cases h
  | succ n ih => intro I x3 h; exact w_Mo_read_55b C ha0 ih h
set_option maxRecDepth 20000 in
theorem w_Mo_read_47 {X : HX} {ad : Nat → Nat} {I : HI} {J : HJ} {N : HN} {r : HI × Int32} {a0 : Nat} {p1 : Int32} {p2 : Int32} (C : Cx X c_Mo_read RX11 4 (some .int) rm_Mo_read) (ha0 : gk Tm nM a0 (0, 11))
    (h : Mo_read_47 J N a0 p1 p2 I = some r) : G Tm X ad nM 0 0 I J N (gE X Tm ad nM (r.1, J, N, fun _ => some (.int r.2))) 47 4 [(0, .ref (ad a0))] [] := by
  refine g_aload_n (pc := 47) C d_Mo_read_47 rfl 0 rfl ?_
  refine g_iconst (pc := 48) C (2 : Int32) d_Mo_read_48 (by decide) ?_
  obtain ⟨I1, r2, hc3, h⟩ := o_bn2 h
  refine g_V (pc := 49) (rest := []) C (k_Mo_finds (xl X) ha0 hc3) sm_Mo_finds ml_Mo_99 im_Mo_finds se_Mo_finds gcX11 rfl ha0 ⟨rfl, rfl, Nat.le_of_ble_eq_true rfl, Nat.le_of_ble_eq_true rfl⟩ ⟨Nat.zero_le _, Nat.zero_le _⟩ rfl rfl (Nat.le_of_ble_eq_true rfl) d_Mo_read_49 [.int r2] rfl ?_
  obtain rfl := o_ret h
  exact g_iret (pc := 52) C d_Mo_read_52
set_option maxRecDepth 20000 in
theorem w_Mo_read_0 {X : HX} {ad : Nat → Nat} {I : HI} {J : HJ} {N : HN} {r : HI × Int32} {a0 : Nat} {p1 : Int32} {p2 : Int32} (C : Cx X c_Mo_read RX11 4 (some .int) rm_Mo_read) (ha0 : gk Tm nM a0 (0, 11))
    (h : Mo_read_0 J N a0 p1 p2 I = some r) : G Tm X ad nM 0 0 I J N (gE X Tm ad nM (r.1, J, N, fun _ => some (.int r.2))) 0 4 [(0, .ref (ad a0)), (1, .int p1), (2, .int p2)] [] := by
  refine g_iload_n (pc := 0) C d_Mo_read_0 rfl 1 rfl ?_
  obtain ⟨r1, hc2, h⟩ := o_bn1 h
  refine g_S (pc := 1) (rest := []) C (k_Mo_isSheet (xl X)  hc2) sm_Mo_isSheet ml_Mo_95 st_Mo_isSheet ⟨rfl, rfl, Nat.le_of_ble_eq_true rfl, Nat.le_of_ble_eq_true rfl⟩ ⟨Nat.zero_le _, Nat.zero_le _⟩ rfl rfl (Nat.le_of_ble_eq_true rfl) d_Mo_read_1 [.int r1] rfl ?_
  refine g_if_ne (pc := 4) C 10 d_Mo_read_4 rfl (fun e3 => ?_) (fun e3 => ?_)
  · have h := o_neg e3 h
    refine g_aload_n (pc := 10) C d_Mo_read_10 rfl 0 rfl ?_
    obtain ⟨b4, hnb4, hb4, h⟩ := o_ra h
    refine g_get (pc := 11) (k := 1) (v := va_rf ((N a0 1).map ad)) C gcX11 inX11 (by decide) fl_Mo_7 ha0 rfl d_Mo_read_11 ?_
    refine g_top (g_rf hnb4) ?_
    refine g_iload_n (pc := 14) C d_Mo_read_14 rfl 1 rfl ?_
    obtain ⟨hi5, h⟩ := o_gd h
    refine g_iald (pc := 15) C hb4 hi5 d_Mo_read_15 ?_
    refine g_iconst (pc := 16) C (-1 : Int32) d_Mo_read_16 (by decide) ?_
    refine g_icmp_ne (pc := 17) C 26 d_Mo_read_17 rfl (fun e6 => ?_) (fun e6 => ?_)
    · have h := o_neg e6 h
      refine g_iload_n (pc := 26) C d_Mo_read_26 rfl 2 rfl ?_
      refine g_if_lt (pc := 27) C 47 d_Mo_read_27 rfl (fun e7 => ?_) (fun e7 => ?_)
      · have h := o_pos e7 h
        refine g_lv [0] rfl ?_
        exact w_Mo_read_47 C ha0 h
      · have h := o_neg e7 h
        refine g_iload_n (pc := 30) C d_Mo_read_30 rfl 2 rfl ?_
        refine g_i2l (pc := 31) C d_Mo_read_31 ?_
        refine g_ldc2 (pc := 32) C kc_Mo_134 d_Mo_read_32 ?_
        refine g_ladd (pc := 35) C d_Mo_read_35 ?_
        refine g_aload_n (pc := 36) C d_Mo_read_36 rfl 0 rfl ?_
        obtain ⟨b8, hnb8, hb8, h⟩ := o_ra h
        refine g_get (pc := 37) (k := 1) (v := va_rf ((N a0 1).map ad)) C gcX11 inX11 (by decide) fl_Mo_7 ha0 rfl d_Mo_read_37 ?_
        refine g_top (g_rf hnb8) ?_
        refine g_iload_n (pc := 40) C d_Mo_read_40 rfl 1 rfl ?_
        obtain ⟨hi9, h⟩ := o_gd h
        refine g_iald (pc := 41) C hb8 hi9 d_Mo_read_41 ?_
        refine g_i2l (pc := 42) C d_Mo_read_42 ?_
        refine g_lcmp_le (pc := 43) C 53 d_Mo_read_43 d_Mo_read_44 rfl (fun e10 => ?_) (fun e10 => ?_)
        · have h := o_pos e10 h
          refine g_iconst (pc := 53) C (0 : Int32) d_Mo_read_53 (by decide) ?_
          refine g_istore_n (pc := 54) (lv' := [(3, .int (0 : Int32)), (0, .ref (ad a0)), (1, .int p1), (2, .int p2)]) C d_Mo_read_54 rfl (by decide) rfl ?_
          refine g_lv [1, 2, 3, 0] rfl ?_
          exact w_Mo_read_55 C ha0 _ _ _ h
        · have h := o_neg e10 h
          refine g_lv [0] rfl ?_
          exact w_Mo_read_47 C ha0 h
    · have h := o_pos e6 h
      refine g_aload_n (pc := 20) C d_Mo_read_20 rfl 0 rfl ?_
      refine g_iconst (pc := 21) C (1 : Int32) d_Mo_read_21 (by decide) ?_
      obtain ⟨I11, r12, hc13, h⟩ := o_bn2 h
      refine g_V (pc := 22) (rest := []) C (k_Mo_finds (xl X) ha0 hc13) sm_Mo_finds ml_Mo_99 im_Mo_finds se_Mo_finds gcX11 rfl ha0 ⟨rfl, rfl, Nat.le_of_ble_eq_true rfl, Nat.le_of_ble_eq_true rfl⟩ ⟨Nat.zero_le _, Nat.zero_le _⟩ rfl rfl (Nat.le_of_ble_eq_true rfl) d_Mo_read_22 [.int r12] rfl ?_
      obtain rfl := o_ret h
      exact g_iret (pc := 25) C d_Mo_read_25
  · have h := o_pos e3 h
    refine g_bipush (pc := 7) C (-2 : Int32) d_Mo_read_7 (by decide) ?_
    obtain rfl := o_ret h
    exact g_iret (pc := 9) C d_Mo_read_9
set_option maxRecDepth 20000 in
theorem k_Mo_read (l : Launch) {I : HI} {J : HJ} {N : HN} {a0 : Nat} {p1 : Int32} {p2 : Int32} {r : HI × Int32} (ha0 : gk Tm nM a0 (0, 11)) (h : Mo_read J N a0 p1 p2 I = some r) : gM l y_Mo_read c_Mo_read 4 (some .int) rm_Mo_read Tm nM I J N (fun ad => [.ref (ad a0), .int p1, .int p2]) (r.1, J, N, fun _ => some (.int r.2)) :=
  g_meth (lv := fun ad => [(0, .ref (ad a0)), (1, .int p1), (2, .int p2)]) (by decide) (fun _ => Nat.le_of_ble_eq_true rfl) (fun _ => rfl) (fun X ad C => g_lv [0, 1, 2] rfl (w_Mo_read_0 C ha0 h))
theorem d_Mo_infoBy_0 : decode c_Mo_infoBy 0 = .ok (.iload_n 1, 1) := by decide +kernel
theorem d_Mo_infoBy_1 : decode c_Mo_infoBy 1 = .ok (.tableswitch 46 0 2 #[27, 27, 33], 27) := by decide +kernel
theorem d_Mo_infoBy_28 : decode c_Mo_infoBy 28 = .ok (.aload_n 0, 1) := by decide +kernel
theorem d_Mo_infoBy_29 : decode c_Mo_infoBy 29 = .ok (.iload_n 1, 1) := by decide +kernel
theorem d_Mo_infoBy_30 : decode c_Mo_infoBy 30 = .ok (.invokevirtual 128, 3) := by decide +kernel
theorem d_Mo_infoBy_33 : decode c_Mo_infoBy 33 = .ok (.ireturn, 1) := by decide +kernel
theorem d_Mo_infoBy_34 : decode c_Mo_infoBy 34 = .ok (.aload_n 0, 1) := by decide +kernel
theorem d_Mo_infoBy_35 : decode c_Mo_infoBy 35 = .ok (.invokevirtual 124, 3) := by decide +kernel
theorem d_Mo_infoBy_38 : decode c_Mo_infoBy 38 = .ok (.ifCond .eq 7, 3) := by decide +kernel
theorem d_Mo_infoBy_41 : decode c_Mo_infoBy 41 = .ok (.iconst 1, 1) := by decide +kernel
theorem d_Mo_infoBy_42 : decode c_Mo_infoBy 42 = .ok (.goto 4, 3) := by decide +kernel
theorem d_Mo_infoBy_45 : decode c_Mo_infoBy 45 = .ok (.iconst 0, 1) := by decide +kernel
theorem d_Mo_infoBy_46 : decode c_Mo_infoBy 46 = .ok (.ireturn, 1) := by decide +kernel
theorem d_Mo_infoBy_47 : decode c_Mo_infoBy 47 = .ok (.aload_n 0, 1) := by decide +kernel
theorem d_Mo_infoBy_48 : decode c_Mo_infoBy 48 = .ok (.iload_n 1, 1) := by decide +kernel
theorem d_Mo_infoBy_49 : decode c_Mo_infoBy 49 = .ok (.iconst 3, 1) := by decide +kernel
theorem d_Mo_infoBy_50 : decode c_Mo_infoBy 50 = .ok (.isub, 1) := by decide +kernel
theorem d_Mo_infoBy_51 : decode c_Mo_infoBy 51 = .ok (.invokevirtual 136, 3) := by decide +kernel
theorem d_Mo_infoBy_54 : decode c_Mo_infoBy 54 = .ok (.ireturn, 1) := by decide +kernel
set_option maxRecDepth 20000 in
theorem w_Mo_infoBy_0 {X : HX} {ad : Nat → Nat} {I : HI} {J : HJ} {N : HN} {r : Int32} {a0 : Nat} {p1 : Int32} (C : Cx X c_Mo_infoBy RX11 2 (some .int) rm_Mo_infoBy) (ha0 : gk Tm nM a0 (0, 11))
    (h : Mo_infoBy_0 I N a0 p1 = some r) : G Tm X ad nM 0 0 I J N (gE X Tm ad nM (I, J, N, fun _ => some (.int r))) 0 2 [(0, .ref (ad a0)), (1, .int p1)] [] := by
  refine g_iload_n (pc := 0) C d_Mo_infoBy_0 rfl 1 rfl ?_
  by_cases e1 : p1 = (0 : Int32)
  · have h := o_pos e1 h
    refine g_tableIn (pc := 1) C 28 d_Mo_infoBy_1 (by rw [e1]; decide) (by rw [e1]; decide) (by rw [e1]; rfl) rfl ?_
    refine g_aload_n (pc := 28) C d_Mo_infoBy_28 rfl 0 rfl ?_
    refine g_iload_n (pc := 29) C d_Mo_infoBy_29 rfl 1 rfl ?_
    obtain ⟨r2, hc3, h⟩ := o_bn1 h
    refine g_V (pc := 30) (rest := []) C (k_Mo_degree (xl X) ha0 hc3) sm_Mo_degree ml_Mo_128 im_Mo_degree se_Mo_degree gcX11 rfl ha0 ⟨rfl, rfl, Nat.le_of_ble_eq_true rfl, Nat.le_of_ble_eq_true rfl⟩ ⟨Nat.zero_le _, Nat.zero_le _⟩ rfl rfl (Nat.le_of_ble_eq_true rfl) d_Mo_infoBy_30 [.int r2] rfl ?_
    obtain rfl := o_ret h
    exact g_iret (pc := 33) C d_Mo_infoBy_33
  have h := o_neg e1 h
  by_cases e4 : p1 = (1 : Int32)
  · have h := o_pos e4 h
    refine g_tableIn (pc := 1) C 28 d_Mo_infoBy_1 (by rw [e4]; decide) (by rw [e4]; decide) (by rw [e4]; rfl) rfl ?_
    refine g_aload_n (pc := 28) C d_Mo_infoBy_28 rfl 0 rfl ?_
    refine g_iload_n (pc := 29) C d_Mo_infoBy_29 rfl 1 rfl ?_
    obtain ⟨r5, hc6, h⟩ := o_bn1 h
    refine g_V (pc := 30) (rest := []) C (k_Mo_degree (xl X) ha0 hc6) sm_Mo_degree ml_Mo_128 im_Mo_degree se_Mo_degree gcX11 rfl ha0 ⟨rfl, rfl, Nat.le_of_ble_eq_true rfl, Nat.le_of_ble_eq_true rfl⟩ ⟨Nat.zero_le _, Nat.zero_le _⟩ rfl rfl (Nat.le_of_ble_eq_true rfl) d_Mo_infoBy_30 [.int r5] rfl ?_
    obtain rfl := o_ret h
    exact g_iret (pc := 33) C d_Mo_infoBy_33
  have h := o_neg e4 h
  by_cases e7 : p1 = (2 : Int32)
  · have h := o_pos e7 h
    refine g_tableIn (pc := 1) C 34 d_Mo_infoBy_1 (by rw [e7]; decide) (by rw [e7]; decide) (by rw [e7]; rfl) rfl ?_
    refine g_aload_n (pc := 34) C d_Mo_infoBy_34 rfl 0 rfl ?_
    obtain ⟨r8, hc9, h⟩ := o_bn1 h
    refine g_V (pc := 35) (rest := []) C (k_Mo_isLawful (xl X) ha0 hc9) sm_Mo_isLawful ml_Mo_124 im_Mo_isLawful se_Mo_isLawful gcX11 rfl ha0 ⟨rfl, rfl, Nat.le_of_ble_eq_true rfl, Nat.le_of_ble_eq_true rfl⟩ ⟨Nat.zero_le _, Nat.zero_le _⟩ rfl rfl (Nat.le_of_ble_eq_true rfl) d_Mo_infoBy_35 [.int r8] rfl ?_
    refine g_if_eq (pc := 38) C 45 d_Mo_infoBy_38 rfl (fun e10 => ?_) (fun e10 => ?_)
    · have h := o_pos e10 h
      refine g_iconst (pc := 45) C (0 : Int32) d_Mo_infoBy_45 (by decide) ?_
      obtain rfl := o_ret h
      exact g_iret (pc := 46) C d_Mo_infoBy_46
    · have h := o_neg e10 h
      refine g_iconst (pc := 41) C (1 : Int32) d_Mo_infoBy_41 (by decide) ?_
      refine g_goto (pc := 42) C 46 d_Mo_infoBy_42 rfl ?_
      obtain rfl := o_ret h
      exact g_iret (pc := 46) C d_Mo_infoBy_46
  have h := o_neg e7 h
  refine g_tableOut (pc := 1) C 47 d_Mo_infoBy_1 (sw_out _ 3 (by decide) (fun k hk => by
      rcases (show k = 0 ∨ k = 1 ∨ k = 2 by omega) with rfl | rfl | rfl
      · exact e1
      · exact e4
      · exact e7)) rfl ?_
  refine g_aload_n (pc := 47) C d_Mo_infoBy_47 rfl 0 rfl ?_
  refine g_iload_n (pc := 48) C d_Mo_infoBy_48 rfl 1 rfl ?_
  refine g_iconst (pc := 49) C (3 : Int32) d_Mo_infoBy_49 (by decide) ?_
  refine g_isub (pc := 50) C d_Mo_infoBy_50 ?_
  obtain ⟨r11, hc12, h⟩ := o_bn1 h
  refine g_V (pc := 51) (rest := []) C (k_Mo_lowest (xl X) ha0 hc12) sm_Mo_lowest ml_Mo_136 im_Mo_lowest se_Mo_lowest gcX11 rfl ha0 ⟨rfl, rfl, Nat.le_of_ble_eq_true rfl, Nat.le_of_ble_eq_true rfl⟩ ⟨Nat.zero_le _, Nat.zero_le _⟩ rfl rfl (Nat.le_of_ble_eq_true rfl) d_Mo_infoBy_51 [.int r11] rfl ?_
  obtain rfl := o_ret h
  exact g_iret (pc := 54) C d_Mo_infoBy_54
set_option maxRecDepth 20000 in
theorem k_Mo_infoBy (l : Launch) {I : HI} {J : HJ} {N : HN} {a0 : Nat} {p1 : Int32} {r : Int32} (ha0 : gk Tm nM a0 (0, 11)) (h : Mo_infoBy I N a0 p1 = some r) : gM l y_Mo_infoBy c_Mo_infoBy 2 (some .int) rm_Mo_infoBy Tm nM I J N (fun ad => [.ref (ad a0), .int p1]) (I, J, N, fun _ => some (.int r)) :=
  g_meth (lv := fun ad => [(0, .ref (ad a0)), (1, .int p1)]) (by decide) (fun _ => Nat.le_of_ble_eq_true rfl) (fun _ => rfl) (fun X ad C => g_lv [0, 1] rfl (w_Mo_infoBy_0 C ha0 h))
theorem d_Mo_info_0 : decode c_Mo_info 0 = .ok (.iload_n 1, 1) := by decide +kernel
theorem d_Mo_info_1 : decode c_Mo_info 1 = .ok (.i2l, 1) := by decide +kernel
theorem d_Mo_info_2 : decode c_Mo_info 2 = .ok (.lconst 0, 1) := by decide +kernel
theorem d_Mo_info_3 : decode c_Mo_info 3 = .ok (.ldc2_w 139, 3) := by decide +kernel
theorem d_Mo_info_6 : decode c_Mo_info 6 = .ok (.invokestatic 83, 3) := by decide +kernel
theorem d_Mo_info_9 : decode c_Mo_info 9 = .ok (.ifCond .eq 11, 3) := by decide +kernel
theorem d_Mo_info_12 : decode c_Mo_info 12 = .ok (.aload_n 0, 1) := by decide +kernel
theorem d_Mo_info_13 : decode c_Mo_info 13 = .ok (.iload_n 1, 1) := by decide +kernel
theorem d_Mo_info_14 : decode c_Mo_info 14 = .ok (.invokevirtual 141, 3) := by decide +kernel
theorem d_Mo_info_17 : decode c_Mo_info 17 = .ok (.goto 5, 3) := by decide +kernel
theorem d_Mo_info_20 : decode c_Mo_info 20 = .ok (.bipush (-9), 2) := by decide +kernel
theorem d_Mo_info_22 : decode c_Mo_info 22 = .ok (.ireturn, 1) := by decide +kernel
set_option maxRecDepth 20000 in
theorem w_Mo_info_0 {X : HX} {ad : Nat → Nat} {I : HI} {J : HJ} {N : HN} {r : Int32} {a0 : Nat} {p1 : Int32} (C : Cx X c_Mo_info RX11 2 (some .int) rm_Mo_info) (ha0 : gk Tm nM a0 (0, 11))
    (h : Mo_info_0 I N a0 p1 = some r) : G Tm X ad nM 0 0 I J N (gE X Tm ad nM (I, J, N, fun _ => some (.int r))) 0 2 [(0, .ref (ad a0)), (1, .int p1)] [] := by
  refine g_iload_n (pc := 0) C d_Mo_info_0 rfl 1 rfl ?_
  refine g_i2l (pc := 1) C d_Mo_info_1 ?_
  refine g_lconst (pc := 2) C (0 : Int64) d_Mo_info_2 (by decide) ?_
  refine g_ldc2 (pc := 3) C kc_Mo_139 d_Mo_info_3 ?_
  obtain ⟨r1, hc2, h⟩ := o_bn1 h
  refine g_S (pc := 6) (rest := []) C (k_Mo_in (xl X)  hc2) sm_Mo_in ml_Mo_83 st_Mo_in ⟨rfl, rfl, Nat.le_of_ble_eq_true rfl, Nat.le_of_ble_eq_true rfl⟩ ⟨Nat.zero_le _, Nat.zero_le _⟩ rfl rfl (Nat.le_of_ble_eq_true rfl) d_Mo_info_6 [.int r1] rfl ?_
  refine g_if_eq (pc := 9) C 20 d_Mo_info_9 rfl (fun e3 => ?_) (fun e3 => ?_)
  · have h := o_pos e3 h
    refine g_bipush (pc := 20) C (-9 : Int32) d_Mo_info_20 (by decide) ?_
    obtain rfl := o_ret h
    exact g_iret (pc := 22) C d_Mo_info_22
  · have h := o_neg e3 h
    refine g_aload_n (pc := 12) C d_Mo_info_12 rfl 0 rfl ?_
    refine g_iload_n (pc := 13) C d_Mo_info_13 rfl 1 rfl ?_
    obtain ⟨r4, hc5, h⟩ := o_bn1 h
    refine g_V (pc := 14) (rest := []) C (k_Mo_infoBy (xl X) ha0 hc5) sm_Mo_infoBy ml_Mo_141 im_Mo_infoBy se_Mo_infoBy gcX11 rfl ha0 ⟨rfl, rfl, Nat.le_of_ble_eq_true rfl, Nat.le_of_ble_eq_true rfl⟩ ⟨Nat.zero_le _, Nat.zero_le _⟩ rfl rfl (Nat.le_of_ble_eq_true rfl) d_Mo_info_14 [.int r4] rfl ?_
    refine g_goto (pc := 17) C 22 d_Mo_info_17 rfl ?_
    obtain rfl := o_ret h
    exact g_iret (pc := 22) C d_Mo_info_22
set_option maxRecDepth 20000 in
theorem k_Mo_info (l : Launch) {I : HI} {J : HJ} {N : HN} {a0 : Nat} {p1 : Int32} {r : Int32} (ha0 : gk Tm nM a0 (0, 11)) (h : Mo_info I N a0 p1 = some r) : gM l y_Mo_info c_Mo_info 2 (some .int) rm_Mo_info Tm nM I J N (fun ad => [.ref (ad a0), .int p1]) (I, J, N, fun _ => some (.int r)) :=
  g_meth (lv := fun ad => [(0, .ref (ad a0)), (1, .int p1)]) (by decide) (fun _ => Nat.le_of_ble_eq_true rfl) (fun _ => rfl) (fun X ad C => g_lv [0, 1] rfl (w_Mo_info_0 C ha0 h))
theorem d_Mo_power_0 : decode c_Mo_power 0 = .ok (.lconst 1, 1) := by decide +kernel
theorem d_Mo_power_1 : decode c_Mo_power 1 = .ok (.lstore_n 3, 1) := by decide +kernel
theorem d_Mo_power_2 : decode c_Mo_power 2 = .ok (.iconst 0, 1) := by decide +kernel
theorem d_Mo_power_3 : decode c_Mo_power 3 = .ok (.istore 5, 2) := by decide +kernel
theorem d_Mo_power_5 : decode c_Mo_power 5 = .ok (.iload 5, 2) := by decide +kernel
theorem d_Mo_power_7 : decode c_Mo_power 7 = .ok (.iload_n 2, 1) := by decide +kernel
theorem d_Mo_power_8 : decode c_Mo_power 8 = .ok (.if_icmp .ge 13, 3) := by decide +kernel
theorem d_Mo_power_11 : decode c_Mo_power 11 = .ok (.lload_n 3, 1) := by decide +kernel
theorem d_Mo_power_12 : decode c_Mo_power 12 = .ok (.lload_n 0, 1) := by decide +kernel
theorem d_Mo_power_13 : decode c_Mo_power 13 = .ok (.lmul, 1) := by decide +kernel
theorem d_Mo_power_14 : decode c_Mo_power 14 = .ok (.lstore_n 3, 1) := by decide +kernel
theorem d_Mo_power_15 : decode c_Mo_power 15 = .ok (.iinc 5 1, 3) := by decide +kernel
theorem d_Mo_power_18 : decode c_Mo_power 18 = .ok (.goto (-13), 3) := by decide +kernel
theorem d_Mo_power_21 : decode c_Mo_power 21 = .ok (.lload_n 3, 1) := by decide +kernel
theorem d_Mo_power_22 : decode c_Mo_power 22 = .ok (.lreturn, 1) := by decide +kernel
set_option maxRecDepth 20000 in
theorem w_Mo_power_5b {X : HX} {ad : Nat → Nat} {I : HI} {J : HJ} {N : HN} {r : Int64} {k5 : Int64 → Int32 → Option (Int64)} {p0 : Int64} {p2 : Int32} {x3 : Int64} {x5 : Int32} (C : Cx X c_Mo_power RX11 6 (some .long) rm_Mo_power)
    (hk5 : ∀ (x3 : Int64) (x5 : Int32), k5 x3 x5 = some r → G Tm X ad nM 0 0 I J N (gE X Tm ad nM (I, J, N, fun _ => some (.long r))) 5 6 [(0, .long p0), (2, .int p2), (3, .long x3), (5, .int x5)] [])
    (h : Mo_power_5b p0 p2 k5 x3 x5 = some r) : G Tm X ad nM 0 0 I J N (gE X Tm ad nM (I, J, N, fun _ => some (.long r))) 5 6 [(0, .long p0), (2, .int p2), (3, .long x3), (5, .int x5)] [] := by
  refine g_iload (pc := 5) C d_Mo_power_5 3 rfl ?_
  refine g_iload_n (pc := 7) C d_Mo_power_7 rfl 1 rfl ?_
  refine g_icmp_ge (pc := 8) C 21 d_Mo_power_8 rfl (fun e1 => ?_) (fun e1 => ?_)
  · have h := o_pos e1 h
    refine g_lload_n (pc := 21) C d_Mo_power_21 rfl 2 rfl ?_
    obtain rfl := o_ret h
    exact g_lret (pc := 22) C d_Mo_power_22
  · have h := o_neg e1 h
    refine g_lload_n (pc := 11) C d_Mo_power_11 rfl 2 rfl ?_
    refine g_lload_n (pc := 12) C d_Mo_power_12 rfl 0 rfl ?_
    refine g_lmul (pc := 13) C d_Mo_power_13 ?_
    obtain ⟨v2, ev2, h⟩ := o_bd h
    refine g_topl ev2 ?_
    refine g_lstore_n (pc := 14) (lv' := [(3, .long v2), (0, .long p0), (2, .int p2), (5, .int x5)]) C d_Mo_power_14 rfl (by decide) rfl ?_
    refine g_iinc (pc := 15) (q := 3) (lv' := [(5, .int (x5 + 1)), (3, .long v2), (0, .long p0), (2, .int p2)]) C d_Mo_power_15 rfl rfl (by decide) rfl ?_
    refine g_goto (pc := 18) C 5 d_Mo_power_18 rfl ?_
    refine g_lv [2, 3, 1, 0] rfl ?_
    exact hk5 _ _ h
set_option maxRecDepth 20000 in
theorem w_Mo_power_5 {X : HX} {ad : Nat → Nat} {I : HI} {J : HJ} {N : HN} {r : Int64} {p0 : Int64} {p2 : Int32} (C : Cx X c_Mo_power RX11 6 (some .long) rm_Mo_power) : ∀ (n : Nat) (x3 : Int64) (x5 : Int32), Mo_power_5 p0 p2 n x3 x5 = some r → G Tm X ad nM 0 0 I J N (gE X Tm ad nM (I, J, N, fun _ => some (.long r))) 5 6 [(0, .long p0), (2, .int p2), (3, .long x3), (5, .int x5)] [] := by
  intro n
  induction n with
  | zero => intro x3 x5 h; cases h
  | succ n ih => intro x3 x5 h; exact w_Mo_power_5b C ih h
set_option maxRecDepth 20000 in
theorem w_Mo_power_0 {X : HX} {ad : Nat → Nat} {I : HI} {J : HJ} {N : HN} {r : Int64} {p0 : Int64} {p2 : Int32} (C : Cx X c_Mo_power RX11 6 (some .long) rm_Mo_power)
    (h : Mo_power_0 p0 p2 = some r) : G Tm X ad nM 0 0 I J N (gE X Tm ad nM (I, J, N, fun _ => some (.long r))) 0 6 [(0, .long p0), (2, .int p2)] [] := by
  refine g_lconst (pc := 0) C (1 : Int64) d_Mo_power_0 (by decide) ?_
  refine g_lstore_n (pc := 1) (lv' := [(3, .long (1 : Int64)), (0, .long p0), (2, .int p2)]) C d_Mo_power_1 rfl (by decide) rfl ?_
  refine g_iconst (pc := 2) C (0 : Int32) d_Mo_power_2 (by decide) ?_
  refine g_istore (pc := 3) (lv' := [(5, .int (0 : Int32)), (3, .long (1 : Int64)), (0, .long p0), (2, .int p2)]) C d_Mo_power_3 (by decide) rfl ?_
  refine g_lv [2, 3, 1, 0] rfl ?_
  exact w_Mo_power_5 C _ _ _ h
set_option maxRecDepth 20000 in
theorem k_Mo_power (l : Launch) {I : HI} {J : HJ} {N : HN} {p0 : Int64} {p2 : Int32} {r : Int64} (h : Mo_power p0 p2 = some r) : gM l y_Mo_power c_Mo_power 6 (some .long) rm_Mo_power Tm nM I J N (fun ad => [.long p0, .int p2]) (I, J, N, fun _ => some (.long r)) :=
  g_meth (lv := fun ad => [(0, .long p0), (2, .int p2)]) (by decide) (fun _ => Nat.le_of_ble_eq_true rfl) (fun _ => rfl) (fun X ad C => g_lv [0, 1] rfl (w_Mo_power_0 C  h))
theorem d_Mo_turnedValue_0 : decode c_Mo_turnedValue 0 = .ok (.lconst 0, 1) := by decide +kernel
theorem d_Mo_turnedValue_1 : decode c_Mo_turnedValue 1 = .ok (.lstore 4, 2) := by decide +kernel
theorem d_Mo_turnedValue_3 : decode c_Mo_turnedValue 3 = .ok (.iconst 0, 1) := by decide +kernel
theorem d_Mo_turnedValue_4 : decode c_Mo_turnedValue 4 = .ok (.istore 6, 2) := by decide +kernel
theorem d_Mo_turnedValue_6 : decode c_Mo_turnedValue 6 = .ok (.iload 6, 2) := by decide +kernel
theorem d_Mo_turnedValue_8 : decode c_Mo_turnedValue 8 = .ok (.bipush 7, 2) := by decide +kernel
theorem d_Mo_turnedValue_10 : decode c_Mo_turnedValue 10 = .ok (.if_icmp .ge 66, 3) := by decide +kernel
theorem d_Mo_turnedValue_13 : decode c_Mo_turnedValue 13 = .ok (.aload_n 0, 1) := by decide +kernel
theorem d_Mo_turnedValue_14 : decode c_Mo_turnedValue 14 = .ok (.getfield 20, 3) := by decide +kernel
theorem d_Mo_turnedValue_17 : decode c_Mo_turnedValue 17 = .ok (.bipush 7, 2) := by decide +kernel
theorem d_Mo_turnedValue_19 : decode c_Mo_turnedValue 19 = .ok (.iload_n 1, 1) := by decide +kernel
theorem d_Mo_turnedValue_20 : decode c_Mo_turnedValue 20 = .ok (.imul, 1) := by decide +kernel
theorem d_Mo_turnedValue_21 : decode c_Mo_turnedValue 21 = .ok (.iload 6, 2) := by decide +kernel
theorem d_Mo_turnedValue_23 : decode c_Mo_turnedValue 23 = .ok (.iadd, 1) := by decide +kernel
theorem d_Mo_turnedValue_24 : decode c_Mo_turnedValue 24 = .ok (.iaload, 1) := by decide +kernel
theorem d_Mo_turnedValue_25 : decode c_Mo_turnedValue 25 = .ok (.i2l, 1) := by decide +kernel
theorem d_Mo_turnedValue_26 : decode c_Mo_turnedValue 26 = .ok (.iload_n 2, 1) := by decide +kernel
theorem d_Mo_turnedValue_27 : decode c_Mo_turnedValue 27 = .ok (.i2l, 1) := by decide +kernel
theorem d_Mo_turnedValue_28 : decode c_Mo_turnedValue 28 = .ok (.iload 6, 2) := by decide +kernel
theorem d_Mo_turnedValue_30 : decode c_Mo_turnedValue 30 = .ok (.invokestatic 144, 3) := by decide +kernel
theorem d_Mo_turnedValue_33 : decode c_Mo_turnedValue 33 = .ok (.lmul, 1) := by decide +kernel
theorem d_Mo_turnedValue_34 : decode c_Mo_turnedValue 34 = .ok (.iload_n 3, 1) := by decide +kernel
theorem d_Mo_turnedValue_35 : decode c_Mo_turnedValue 35 = .ok (.i2l, 1) := by decide +kernel
theorem d_Mo_turnedValue_36 : decode c_Mo_turnedValue 36 = .ok (.bipush 6, 2) := by decide +kernel
theorem d_Mo_turnedValue_38 : decode c_Mo_turnedValue 38 = .ok (.iload 6, 2) := by decide +kernel
theorem d_Mo_turnedValue_40 : decode c_Mo_turnedValue 40 = .ok (.isub, 1) := by decide +kernel
theorem d_Mo_turnedValue_41 : decode c_Mo_turnedValue 41 = .ok (.invokestatic 144, 3) := by decide +kernel
theorem d_Mo_turnedValue_44 : decode c_Mo_turnedValue 44 = .ok (.lmul, 1) := by decide +kernel
theorem d_Mo_turnedValue_45 : decode c_Mo_turnedValue 45 = .ok (.lstore 7, 2) := by decide +kernel
theorem d_Mo_turnedValue_47 : decode c_Mo_turnedValue 47 = .ok (.lload 4, 2) := by decide +kernel
theorem d_Mo_turnedValue_49 : decode c_Mo_turnedValue 49 = .ok (.iload 6, 2) := by decide +kernel
theorem d_Mo_turnedValue_51 : decode c_Mo_turnedValue 51 = .ok (.iconst 2, 1) := by decide +kernel
theorem d_Mo_turnedValue_52 : decode c_Mo_turnedValue 52 = .ok (.idiv, 1) := by decide +kernel
theorem d_Mo_turnedValue_53 : decode c_Mo_turnedValue 53 = .ok (.iconst 2, 1) := by decide +kernel
theorem d_Mo_turnedValue_54 : decode c_Mo_turnedValue 54 = .ok (.irem, 1) := by decide +kernel
theorem d_Mo_turnedValue_55 : decode c_Mo_turnedValue 55 = .ok (.ifCond .ne 8, 3) := by decide +kernel
theorem d_Mo_turnedValue_58 : decode c_Mo_turnedValue 58 = .ok (.lload 7, 2) := by decide +kernel
theorem d_Mo_turnedValue_60 : decode c_Mo_turnedValue 60 = .ok (.goto 7, 3) := by decide +kernel
theorem d_Mo_turnedValue_63 : decode c_Mo_turnedValue 63 = .ok (.lconst 0, 1) := by decide +kernel
theorem d_Mo_turnedValue_64 : decode c_Mo_turnedValue 64 = .ok (.lload 7, 2) := by decide +kernel
theorem d_Mo_turnedValue_66 : decode c_Mo_turnedValue 66 = .ok (.lsub, 1) := by decide +kernel
theorem d_Mo_turnedValue_67 : decode c_Mo_turnedValue 67 = .ok (.ladd, 1) := by decide +kernel
theorem d_Mo_turnedValue_68 : decode c_Mo_turnedValue 68 = .ok (.lstore 4, 2) := by decide +kernel
theorem d_Mo_turnedValue_70 : decode c_Mo_turnedValue 70 = .ok (.iinc 6 1, 3) := by decide +kernel
theorem d_Mo_turnedValue_73 : decode c_Mo_turnedValue 73 = .ok (.goto (-67), 3) := by decide +kernel
theorem d_Mo_turnedValue_76 : decode c_Mo_turnedValue 76 = .ok (.lload 4, 2) := by decide +kernel
theorem d_Mo_turnedValue_78 : decode c_Mo_turnedValue 78 = .ok (.lreturn, 1) := by decide +kernel
set_option maxRecDepth 20000 in
theorem w_Mo_turnedValue_67 {X : HX} {ad : Nat → Nat} {I : HI} {J : HJ} {N : HN} {r : Int64} {k6 : Int64 → Int32 → Option (Int64)} {a0 : Nat} {p1 : Int32} {p2 : Int32} {p3 : Int32} {x6 : Int32} {s0 : Int64} {s1 : Int64} (C : Cx X c_Mo_turnedValue RX11 9 (some .long) rm_Mo_turnedValue) (ha0 : gk Tm nM a0 (0, 11))
    (hk6 : ∀ (x4 : Int64) (x6 : Int32), k6 x4 x6 = some r → G Tm X ad nM 0 0 I J N (gE X Tm ad nM (I, J, N, fun _ => some (.long r))) 6 9 [(0, .ref (ad a0)), (1, .int p1), (2, .int p2), (3, .int p3), (4, .long x4), (6, .int x6)] [])
    (h : Mo_turnedValue_67 I N a0 p1 p2 p3 k6 x6 s0 s1 = some r) : G Tm X ad nM 0 0 I J N (gE X Tm ad nM (I, J, N, fun _ => some (.long r))) 67 9 [(0, .ref (ad a0)), (1, .int p1), (2, .int p2), (3, .int p3), (6, .int x6)] [.long s1, .long s0] := by
  refine g_ladd (pc := 67) C d_Mo_turnedValue_67 ?_
  obtain ⟨v1, ev1, h⟩ := o_bd h
  refine g_topl ev1 ?_
  refine g_lstore (pc := 68) (lv' := [(4, .long v1), (0, .ref (ad a0)), (1, .int p1), (2, .int p2), (3, .int p3), (6, .int x6)]) C d_Mo_turnedValue_68 (by decide) rfl ?_
  refine g_iinc (pc := 70) (q := 5) (lv' := [(6, .int (x6 + 1)), (4, .long v1), (0, .ref (ad a0)), (1, .int p1), (2, .int p2), (3, .int p3)]) C d_Mo_turnedValue_70 rfl rfl (by decide) rfl ?_
  refine g_goto (pc := 73) C 6 d_Mo_turnedValue_73 rfl ?_
  refine g_lv [2, 3, 4, 5, 1, 0] rfl ?_
  exact hk6 _ _ h
set_option maxRecDepth 20000 in
theorem w_Mo_turnedValue_6b {X : HX} {ad : Nat → Nat} {I : HI} {J : HJ} {N : HN} {r : Int64} {k6 : Int64 → Int32 → Option (Int64)} {a0 : Nat} {p1 : Int32} {p2 : Int32} {p3 : Int32} {x4 : Int64} {x6 : Int32} (C : Cx X c_Mo_turnedValue RX11 9 (some .long) rm_Mo_turnedValue) (ha0 : gk Tm nM a0 (0, 11))
    (hk6 : ∀ (x4 : Int64) (x6 : Int32), k6 x4 x6 = some r → G Tm X ad nM 0 0 I J N (gE X Tm ad nM (I, J, N, fun _ => some (.long r))) 6 9 [(0, .ref (ad a0)), (1, .int p1), (2, .int p2), (3, .int p3), (4, .long x4), (6, .int x6)] [])
    (h : Mo_turnedValue_6b I N a0 p1 p2 p3 k6 x4 x6 = some r) : G Tm X ad nM 0 0 I J N (gE X Tm ad nM (I, J, N, fun _ => some (.long r))) 6 9 [(0, .ref (ad a0)), (1, .int p1), (2, .int p2), (3, .int p3), (4, .long x4), (6, .int x6)] [] := by
  refine g_iload (pc := 6) C d_Mo_turnedValue_6 5 rfl ?_
  refine g_bipush (pc := 8) C (7 : Int32) d_Mo_turnedValue_8 (by decide) ?_
  refine g_icmp_ge (pc := 10) C 76 d_Mo_turnedValue_10 rfl (fun e1 => ?_) (fun e1 => ?_)
  · have h := o_pos e1 h
    refine g_lload (pc := 76) C d_Mo_turnedValue_76 4 rfl ?_
    obtain rfl := o_ret h
    exact g_lret (pc := 78) C d_Mo_turnedValue_78
  · have h := o_neg e1 h
    refine g_aload_n (pc := 13) C d_Mo_turnedValue_13 rfl 0 rfl ?_
    obtain ⟨b2, hnb2, hb2, h⟩ := o_ra h
    refine g_get (pc := 14) (k := 4) (v := va_rf ((N a0 4).map ad)) C gcX11 inX11 (by decide) fl_Mo_20 ha0 rfl d_Mo_turnedValue_14 ?_
    refine g_top (g_rf hnb2) ?_
    refine g_bipush (pc := 17) C (7 : Int32) d_Mo_turnedValue_17 (by decide) ?_
    refine g_iload_n (pc := 19) C d_Mo_turnedValue_19 rfl 1 rfl ?_
    refine g_imul (pc := 20) C d_Mo_turnedValue_20 ?_
    refine g_iload (pc := 21) C d_Mo_turnedValue_21 5 rfl ?_
    refine g_iadd (pc := 23) C d_Mo_turnedValue_23 ?_
    obtain ⟨hi3, h⟩ := o_gd h
    refine g_iald (pc := 24) C hb2 hi3 d_Mo_turnedValue_24 ?_
    refine g_i2l (pc := 25) C d_Mo_turnedValue_25 ?_
    refine g_iload_n (pc := 26) C d_Mo_turnedValue_26 rfl 2 rfl ?_
    refine g_i2l (pc := 27) C d_Mo_turnedValue_27 ?_
    refine g_iload (pc := 28) C d_Mo_turnedValue_28 5 rfl ?_
    obtain ⟨r4, hc5, h⟩ := o_bn1 h
    refine g_S (pc := 30) (rest := [.long ((I b2 (((7 : Int32) * p1) + x6).toNatClampNeg).toInt64)]) C (k_Mo_power (xl X)  hc5) sm_Mo_power ml_Mo_144 st_Mo_power ⟨rfl, rfl, Nat.le_of_ble_eq_true rfl, Nat.le_of_ble_eq_true rfl⟩ ⟨Nat.zero_le _, Nat.zero_le _⟩ rfl rfl (Nat.le_of_ble_eq_true rfl) d_Mo_turnedValue_30 [.long r4, .long ((I b2 (((7 : Int32) * p1) + x6).toNatClampNeg).toInt64)] rfl ?_
    refine g_lmul (pc := 33) C d_Mo_turnedValue_33 ?_
    refine g_iload_n (pc := 34) C d_Mo_turnedValue_34 rfl 3 rfl ?_
    refine g_i2l (pc := 35) C d_Mo_turnedValue_35 ?_
    refine g_bipush (pc := 36) C (6 : Int32) d_Mo_turnedValue_36 (by decide) ?_
    refine g_iload (pc := 38) C d_Mo_turnedValue_38 5 rfl ?_
    refine g_isub (pc := 40) C d_Mo_turnedValue_40 ?_
    obtain ⟨r6, hc7, h⟩ := o_bn1 h
    refine g_S (pc := 41) (rest := [.long (((I b2 (((7 : Int32) * p1) + x6).toNatClampNeg).toInt64) * r4)]) C (k_Mo_power (xl X)  hc7) sm_Mo_power ml_Mo_144 st_Mo_power ⟨rfl, rfl, Nat.le_of_ble_eq_true rfl, Nat.le_of_ble_eq_true rfl⟩ ⟨Nat.zero_le _, Nat.zero_le _⟩ rfl rfl (Nat.le_of_ble_eq_true rfl) d_Mo_turnedValue_41 [.long r6, .long (((I b2 (((7 : Int32) * p1) + x6).toNatClampNeg).toInt64) * r4)] rfl ?_
    refine g_lmul (pc := 44) C d_Mo_turnedValue_44 ?_
    obtain ⟨v8, ev8, h⟩ := o_bd h
    refine g_topl ev8 ?_
    refine g_lstore (pc := 45) (lv' := [(7, .long v8), (0, .ref (ad a0)), (1, .int p1), (2, .int p2), (3, .int p3), (4, .long x4), (6, .int x6)]) C d_Mo_turnedValue_45 (by decide) rfl ?_
    refine g_lload (pc := 47) C d_Mo_turnedValue_47 5 rfl ?_
    refine g_iload (pc := 49) C d_Mo_turnedValue_49 6 rfl ?_
    refine g_iconst (pc := 51) C (2 : Int32) d_Mo_turnedValue_51 (by decide) ?_
    refine g_idiv (pc := 52) C d_Mo_turnedValue_52 (by decide) ?_
    refine g_iconst (pc := 53) C (2 : Int32) d_Mo_turnedValue_53 (by decide) ?_
    refine g_irem (pc := 54) C d_Mo_turnedValue_54 (by decide) ?_
    refine g_if_ne (pc := 55) C 63 d_Mo_turnedValue_55 rfl (fun e9 => ?_) (fun e9 => ?_)
    · have h := o_neg e9 h
      refine g_lconst (pc := 63) C (0 : Int64) d_Mo_turnedValue_63 (by decide) ?_
      refine g_lload (pc := 64) C d_Mo_turnedValue_64 0 rfl ?_
      refine g_lsub (pc := 66) C d_Mo_turnedValue_66 ?_
      refine g_lv [1, 2, 3, 4, 6] rfl ?_
      exact w_Mo_turnedValue_67 C ha0 hk6 h
    · have h := o_pos e9 h
      refine g_lload (pc := 58) C d_Mo_turnedValue_58 0 rfl ?_
      refine g_goto (pc := 60) C 67 d_Mo_turnedValue_60 rfl ?_
      refine g_lv [1, 2, 3, 4, 6] rfl ?_
      exact w_Mo_turnedValue_67 C ha0 hk6 h
set_option maxRecDepth 20000 in
theorem w_Mo_turnedValue_6 {X : HX} {ad : Nat → Nat} {I : HI} {J : HJ} {N : HN} {r : Int64} {a0 : Nat} {p1 : Int32} {p2 : Int32} {p3 : Int32} (C : Cx X c_Mo_turnedValue RX11 9 (some .long) rm_Mo_turnedValue) (ha0 : gk Tm nM a0 (0, 11)) : ∀ (n : Nat) (x4 : Int64) (x6 : Int32), Mo_turnedValue_6 I N a0 p1 p2 p3 n x4 x6 = some r → G Tm X ad nM 0 0 I J N (gE X Tm ad nM (I, J, N, fun _ => some (.long r))) 6 9 [(0, .ref (ad a0)), (1, .int p1), (2, .int p2), (3, .int p3), (4, .long x4), (6, .int x6)] [] := by
  intro n
  induction n with
  | zero => intro x4 x6 h; cases h
  | succ n ih => intro x4 x6 h; exact w_Mo_turnedValue_6b C ha0 ih h
set_option maxRecDepth 20000 in
theorem w_Mo_turnedValue_0 {X : HX} {ad : Nat → Nat} {I : HI} {J : HJ} {N : HN} {r : Int64} {a0 : Nat} {p1 : Int32} {p2 : Int32} {p3 : Int32} (C : Cx X c_Mo_turnedValue RX11 9 (some .long) rm_Mo_turnedValue) (ha0 : gk Tm nM a0 (0, 11))
    (h : Mo_turnedValue_0 I N a0 p1 p2 p3 = some r) : G Tm X ad nM 0 0 I J N (gE X Tm ad nM (I, J, N, fun _ => some (.long r))) 0 9 [(0, .ref (ad a0)), (1, .int p1), (2, .int p2), (3, .int p3)] [] := by
  refine g_lconst (pc := 0) C (0 : Int64) d_Mo_turnedValue_0 (by decide) ?_
  refine g_lstore (pc := 1) (lv' := [(4, .long (0 : Int64)), (0, .ref (ad a0)), (1, .int p1), (2, .int p2), (3, .int p3)]) C d_Mo_turnedValue_1 (by decide) rfl ?_
  refine g_iconst (pc := 3) C (0 : Int32) d_Mo_turnedValue_3 (by decide) ?_
  refine g_istore (pc := 4) (lv' := [(6, .int (0 : Int32)), (4, .long (0 : Int64)), (0, .ref (ad a0)), (1, .int p1), (2, .int p2), (3, .int p3)]) C d_Mo_turnedValue_4 (by decide) rfl ?_
  refine g_lv [2, 3, 4, 5, 1, 0] rfl ?_
  exact w_Mo_turnedValue_6 C ha0 _ _ _ h
set_option maxRecDepth 20000 in
theorem k_Mo_turnedValue (l : Launch) {I : HI} {J : HJ} {N : HN} {a0 : Nat} {p1 : Int32} {p2 : Int32} {p3 : Int32} {r : Int64} (ha0 : gk Tm nM a0 (0, 11)) (h : Mo_turnedValue I N a0 p1 p2 p3 = some r) : gM l y_Mo_turnedValue c_Mo_turnedValue 9 (some .long) rm_Mo_turnedValue Tm nM I J N (fun ad => [.ref (ad a0), .int p1, .int p2, .int p3]) (I, J, N, fun _ => some (.long r)) :=
  g_meth (lv := fun ad => [(0, .ref (ad a0)), (1, .int p1), (2, .int p2), (3, .int p3)]) (by decide) (fun _ => Nat.le_of_ble_eq_true rfl) (fun _ => rfl) (fun X ad C => g_lv [0, 1, 2, 3] rfl (w_Mo_turnedValue_0 C ha0 h))
theorem d_Mo_reactanceBy_0 : decode c_Mo_reactanceBy 0 = .ok (.aload_n 0, 1) := by decide +kernel
theorem d_Mo_reactanceBy_1 : decode c_Mo_reactanceBy 1 = .ok (.invokevirtual 124, 3) := by decide +kernel
theorem d_Mo_reactanceBy_4 : decode c_Mo_reactanceBy 4 = .ok (.ifCond .ne 9, 3) := by decide +kernel
theorem d_Mo_reactanceBy_7 : decode c_Mo_reactanceBy 7 = .ok (.bipush (-3), 2) := by decide +kernel
theorem d_Mo_reactanceBy_9 : decode c_Mo_reactanceBy 9 = .ok (.invokestatic 107, 3) := by decide +kernel
theorem d_Mo_reactanceBy_12 : decode c_Mo_reactanceBy 12 = .ok (.lreturn, 1) := by decide +kernel
theorem d_Mo_reactanceBy_13 : decode c_Mo_reactanceBy 13 = .ok (.aload_n 0, 1) := by decide +kernel
theorem d_Mo_reactanceBy_14 : decode c_Mo_reactanceBy 14 = .ok (.iconst 0, 1) := by decide +kernel
theorem d_Mo_reactanceBy_15 : decode c_Mo_reactanceBy 15 = .ok (.iload_n 1, 1) := by decide +kernel
theorem d_Mo_reactanceBy_16 : decode c_Mo_reactanceBy 16 = .ok (.iload_n 2, 1) := by decide +kernel
theorem d_Mo_reactanceBy_17 : decode c_Mo_reactanceBy 17 = .ok (.invokevirtual 148, 3) := by decide +kernel
theorem d_Mo_reactanceBy_20 : decode c_Mo_reactanceBy 20 = .ok (.lstore 4, 2) := by decide +kernel
theorem d_Mo_reactanceBy_22 : decode c_Mo_reactanceBy 22 = .ok (.aload_n 0, 1) := by decide +kernel
theorem d_Mo_reactanceBy_23 : decode c_Mo_reactanceBy 23 = .ok (.iconst 1, 1) := by decide +kernel
theorem d_Mo_reactanceBy_24 : decode c_Mo_reactanceBy 24 = .ok (.iload_n 1, 1) := by decide +kernel
theorem d_Mo_reactanceBy_25 : decode c_Mo_reactanceBy 25 = .ok (.iload_n 2, 1) := by decide +kernel
theorem d_Mo_reactanceBy_26 : decode c_Mo_reactanceBy 26 = .ok (.invokevirtual 148, 3) := by decide +kernel
theorem d_Mo_reactanceBy_29 : decode c_Mo_reactanceBy 29 = .ok (.lstore 6, 2) := by decide +kernel
theorem d_Mo_reactanceBy_31 : decode c_Mo_reactanceBy 31 = .ok (.lload 6, 2) := by decide +kernel
theorem d_Mo_reactanceBy_33 : decode c_Mo_reactanceBy 33 = .ok (.lconst 0, 1) := by decide +kernel
theorem d_Mo_reactanceBy_34 : decode c_Mo_reactanceBy 34 = .ok (.lcmp, 1) := by decide +kernel
theorem d_Mo_reactanceBy_35 : decode c_Mo_reactanceBy 35 = .ok (.ifCond .ne 9, 3) := by decide +kernel
theorem d_Mo_reactanceBy_38 : decode c_Mo_reactanceBy 38 = .ok (.bipush (-3), 2) := by decide +kernel
theorem d_Mo_reactanceBy_40 : decode c_Mo_reactanceBy 40 = .ok (.invokestatic 107, 3) := by decide +kernel
theorem d_Mo_reactanceBy_43 : decode c_Mo_reactanceBy 43 = .ok (.lreturn, 1) := by decide +kernel
theorem d_Mo_reactanceBy_44 : decode c_Mo_reactanceBy 44 = .ok (.aload_n 0, 1) := by decide +kernel
theorem d_Mo_reactanceBy_45 : decode c_Mo_reactanceBy 45 = .ok (.iconst 1, 1) := by decide +kernel
theorem d_Mo_reactanceBy_46 : decode c_Mo_reactanceBy 46 = .ok (.invokevirtual 121, 3) := by decide +kernel
theorem d_Mo_reactanceBy_49 : decode c_Mo_reactanceBy 49 = .ok (.iconst 1, 1) := by decide +kernel
theorem d_Mo_reactanceBy_50 : decode c_Mo_reactanceBy 50 = .ok (.if_icmp .ne 10, 3) := by decide +kernel
theorem d_Mo_reactanceBy_53 : decode c_Mo_reactanceBy 53 = .ok (.lconst 0, 1) := by decide +kernel
theorem d_Mo_reactanceBy_54 : decode c_Mo_reactanceBy 54 = .ok (.lload 4, 2) := by decide +kernel
theorem d_Mo_reactanceBy_56 : decode c_Mo_reactanceBy 56 = .ok (.lsub, 1) := by decide +kernel
theorem d_Mo_reactanceBy_57 : decode c_Mo_reactanceBy 57 = .ok (.goto 5, 3) := by decide +kernel
theorem d_Mo_reactanceBy_60 : decode c_Mo_reactanceBy 60 = .ok (.lload 4, 2) := by decide +kernel
theorem d_Mo_reactanceBy_62 : decode c_Mo_reactanceBy 62 = .ok (.lstore 4, 2) := by decide +kernel
theorem d_Mo_reactanceBy_64 : decode c_Mo_reactanceBy 64 = .ok (.lload 4, 2) := by decide +kernel
theorem d_Mo_reactanceBy_66 : decode c_Mo_reactanceBy 66 = .ok (.lload 6, 2) := by decide +kernel
theorem d_Mo_reactanceBy_68 : decode c_Mo_reactanceBy 68 = .ok (.invokestatic 152, 3) := by decide +kernel
theorem d_Mo_reactanceBy_71 : decode c_Mo_reactanceBy 71 = .ok (.lstore 8, 2) := by decide +kernel
theorem d_Mo_reactanceBy_73 : decode c_Mo_reactanceBy 73 = .ok (.lload 6, 2) := by decide +kernel
theorem d_Mo_reactanceBy_75 : decode c_Mo_reactanceBy 75 = .ok (.lconst 0, 1) := by decide +kernel
theorem d_Mo_reactanceBy_76 : decode c_Mo_reactanceBy 76 = .ok (.lcmp, 1) := by decide +kernel
theorem d_Mo_reactanceBy_77 : decode c_Mo_reactanceBy 77 = .ok (.ifCond .ge 10, 3) := by decide +kernel
theorem d_Mo_reactanceBy_80 : decode c_Mo_reactanceBy 80 = .ok (.lconst 0, 1) := by decide +kernel
theorem d_Mo_reactanceBy_81 : decode c_Mo_reactanceBy 81 = .ok (.lload 8, 2) := by decide +kernel
theorem d_Mo_reactanceBy_83 : decode c_Mo_reactanceBy 83 = .ok (.lsub, 1) := by decide +kernel
theorem d_Mo_reactanceBy_84 : decode c_Mo_reactanceBy 84 = .ok (.goto 5, 3) := by decide +kernel
theorem d_Mo_reactanceBy_87 : decode c_Mo_reactanceBy 87 = .ok (.lload 8, 2) := by decide +kernel
theorem d_Mo_reactanceBy_89 : decode c_Mo_reactanceBy 89 = .ok (.lstore 8, 2) := by decide +kernel
theorem d_Mo_reactanceBy_91 : decode c_Mo_reactanceBy 91 = .ok (.iload_n 3, 1) := by decide +kernel
theorem d_Mo_reactanceBy_92 : decode c_Mo_reactanceBy 92 = .ok (.ifCond .ne 11, 3) := by decide +kernel
theorem d_Mo_reactanceBy_95 : decode c_Mo_reactanceBy 95 = .ok (.lload 4, 2) := by decide +kernel
theorem d_Mo_reactanceBy_97 : decode c_Mo_reactanceBy 97 = .ok (.lload 8, 2) := by decide +kernel
theorem d_Mo_reactanceBy_99 : decode c_Mo_reactanceBy 99 = .ok (.ldiv, 1) := by decide +kernel
theorem d_Mo_reactanceBy_100 : decode c_Mo_reactanceBy 100 = .ok (.goto 8, 3) := by decide +kernel
theorem d_Mo_reactanceBy_103 : decode c_Mo_reactanceBy 103 = .ok (.lload 6, 2) := by decide +kernel
theorem d_Mo_reactanceBy_105 : decode c_Mo_reactanceBy 105 = .ok (.lload 8, 2) := by decide +kernel
theorem d_Mo_reactanceBy_107 : decode c_Mo_reactanceBy 107 = .ok (.ldiv, 1) := by decide +kernel
theorem d_Mo_reactanceBy_108 : decode c_Mo_reactanceBy 108 = .ok (.lreturn, 1) := by decide +kernel
set_option maxRecDepth 20000 in
theorem w_Mo_reactanceBy_89 {X : HX} {ad : Nat → Nat} {I : HI} {J : HJ} {N : HN} {r : Int64} {a0 : Nat} {p1 : Int32} {p2 : Int32} {p3 : Int32} {x4 : Int64} {x6 : Int64} {s0 : Int64} (C : Cx X c_Mo_reactanceBy RX11 10 (some .long) rm_Mo_reactanceBy) (ha0 : gk Tm nM a0 (0, 11))
    (h : Mo_reactanceBy_89 I N a0 p1 p2 p3 x4 x6 s0 = some r) : G Tm X ad nM 0 0 I J N (gE X Tm ad nM (I, J, N, fun _ => some (.long r))) 89 10 [(3, .int p3), (4, .long x4), (6, .long x6)] [.long s0] := by
  refine g_lstore (pc := 89) (lv' := [(8, .long s0), (3, .int p3), (4, .long x4), (6, .long x6)]) C d_Mo_reactanceBy_89 (by decide) rfl ?_
  refine g_iload_n (pc := 91) C d_Mo_reactanceBy_91 rfl 1 rfl ?_
  refine g_if_ne (pc := 92) C 103 d_Mo_reactanceBy_92 rfl (fun e1 => ?_) (fun e1 => ?_)
  · have h := o_neg e1 h
    refine g_lload (pc := 103) C d_Mo_reactanceBy_103 3 rfl ?_
    refine g_lload (pc := 105) C d_Mo_reactanceBy_105 0 rfl ?_
    obtain ⟨hz2, h⟩ := o_gd h
    refine g_ldiv (pc := 107) C d_Mo_reactanceBy_107 (of_decide_eq_true hz2) ?_
    obtain rfl := o_ret h
    exact g_lret (pc := 108) C d_Mo_reactanceBy_108
  · have h := o_pos e1 h
    refine g_lload (pc := 95) C d_Mo_reactanceBy_95 2 rfl ?_
    refine g_lload (pc := 97) C d_Mo_reactanceBy_97 0 rfl ?_
    obtain ⟨hz3, h⟩ := o_gd h
    refine g_ldiv (pc := 99) C d_Mo_reactanceBy_99 (of_decide_eq_true hz3) ?_
    refine g_goto (pc := 100) C 108 d_Mo_reactanceBy_100 rfl ?_
    obtain rfl := o_ret h
    exact g_lret (pc := 108) C d_Mo_reactanceBy_108
set_option maxRecDepth 20000 in
theorem w_Mo_reactanceBy_62 {X : HX} {ad : Nat → Nat} {I : HI} {J : HJ} {N : HN} {r : Int64} {a0 : Nat} {p1 : Int32} {p2 : Int32} {p3 : Int32} {x6 : Int64} {s0 : Int64} (C : Cx X c_Mo_reactanceBy RX11 10 (some .long) rm_Mo_reactanceBy) (ha0 : gk Tm nM a0 (0, 11))
    (h : Mo_reactanceBy_62 I N a0 p1 p2 p3 x6 s0 = some r) : G Tm X ad nM 0 0 I J N (gE X Tm ad nM (I, J, N, fun _ => some (.long r))) 62 10 [(3, .int p3), (6, .long x6)] [.long s0] := by
  refine g_lstore (pc := 62) (lv' := [(4, .long s0), (3, .int p3), (6, .long x6)]) C d_Mo_reactanceBy_62 (by decide) rfl ?_
  refine g_lload (pc := 64) C d_Mo_reactanceBy_64 0 rfl ?_
  refine g_lload (pc := 66) C d_Mo_reactanceBy_66 2 rfl ?_
  obtain ⟨r1, hc2, h⟩ := o_bn1 h
  refine g_S (pc := 68) (rest := []) C (k_Mo_divisor (xl X)  hc2) sm_Mo_divisor ml_Mo_152 st_Mo_divisor ⟨rfl, rfl, Nat.le_of_ble_eq_true rfl, Nat.le_of_ble_eq_true rfl⟩ ⟨Nat.zero_le _, Nat.zero_le _⟩ rfl rfl (Nat.le_of_ble_eq_true rfl) d_Mo_reactanceBy_68 [.long r1] rfl ?_
  refine g_lstore (pc := 71) (lv' := [(8, .long r1), (4, .long s0), (3, .int p3), (6, .long x6)]) C d_Mo_reactanceBy_71 (by decide) rfl ?_
  refine g_lload (pc := 73) C d_Mo_reactanceBy_73 3 rfl ?_
  refine g_lconst (pc := 75) C (0 : Int64) d_Mo_reactanceBy_75 (by decide) ?_
  refine g_lcmp_ge (pc := 76) C 87 d_Mo_reactanceBy_76 d_Mo_reactanceBy_77 rfl (fun e3 => ?_) (fun e3 => ?_)
  · have h := o_pos e3 h
    refine g_lload (pc := 87) C d_Mo_reactanceBy_87 0 rfl ?_
    refine g_lv [2, 1, 3] rfl ?_
    exact w_Mo_reactanceBy_89 C ha0 h
  · have h := o_neg e3 h
    refine g_lconst (pc := 80) C (0 : Int64) d_Mo_reactanceBy_80 (by decide) ?_
    refine g_lload (pc := 81) C d_Mo_reactanceBy_81 0 rfl ?_
    refine g_lsub (pc := 83) C d_Mo_reactanceBy_83 ?_
    refine g_goto (pc := 84) C 89 d_Mo_reactanceBy_84 rfl ?_
    refine g_lv [2, 1, 3] rfl ?_
    exact w_Mo_reactanceBy_89 C ha0 h
set_option maxRecDepth 20000 in
theorem w_Mo_reactanceBy_0 {X : HX} {ad : Nat → Nat} {I : HI} {J : HJ} {N : HN} {r : Int64} {a0 : Nat} {p1 : Int32} {p2 : Int32} {p3 : Int32} (C : Cx X c_Mo_reactanceBy RX11 10 (some .long) rm_Mo_reactanceBy) (ha0 : gk Tm nM a0 (0, 11))
    (h : Mo_reactanceBy_0 I N a0 p1 p2 p3 = some r) : G Tm X ad nM 0 0 I J N (gE X Tm ad nM (I, J, N, fun _ => some (.long r))) 0 10 [(0, .ref (ad a0)), (1, .int p1), (2, .int p2), (3, .int p3)] [] := by
  refine g_aload_n (pc := 0) C d_Mo_reactanceBy_0 rfl 0 rfl ?_
  obtain ⟨r1, hc2, h⟩ := o_bn1 h
  refine g_V (pc := 1) (rest := []) C (k_Mo_isLawful (xl X) ha0 hc2) sm_Mo_isLawful ml_Mo_124 im_Mo_isLawful se_Mo_isLawful gcX11 rfl ha0 ⟨rfl, rfl, Nat.le_of_ble_eq_true rfl, Nat.le_of_ble_eq_true rfl⟩ ⟨Nat.zero_le _, Nat.zero_le _⟩ rfl rfl (Nat.le_of_ble_eq_true rfl) d_Mo_reactanceBy_1 [.int r1] rfl ?_
  refine g_if_ne (pc := 4) C 13 d_Mo_reactanceBy_4 rfl (fun e3 => ?_) (fun e3 => ?_)
  · have h := o_neg e3 h
    refine g_aload_n (pc := 13) C d_Mo_reactanceBy_13 rfl 0 rfl ?_
    refine g_iconst (pc := 14) C (0 : Int32) d_Mo_reactanceBy_14 (by decide) ?_
    refine g_iload_n (pc := 15) C d_Mo_reactanceBy_15 rfl 1 rfl ?_
    refine g_iload_n (pc := 16) C d_Mo_reactanceBy_16 rfl 2 rfl ?_
    obtain ⟨r4, hc5, h⟩ := o_bn1 h
    refine g_V (pc := 17) (rest := []) C (k_Mo_turnedValue (xl X) ha0 hc5) sm_Mo_turnedValue ml_Mo_148 im_Mo_turnedValue se_Mo_turnedValue gcX11 rfl ha0 ⟨rfl, rfl, Nat.le_of_ble_eq_true rfl, Nat.le_of_ble_eq_true rfl⟩ ⟨Nat.zero_le _, Nat.zero_le _⟩ rfl rfl (Nat.le_of_ble_eq_true rfl) d_Mo_reactanceBy_17 [.long r4] rfl ?_
    refine g_lstore (pc := 20) (lv' := [(4, .long r4), (0, .ref (ad a0)), (1, .int p1), (2, .int p2), (3, .int p3)]) C d_Mo_reactanceBy_20 (by decide) rfl ?_
    refine g_aload_n (pc := 22) C d_Mo_reactanceBy_22 rfl 1 rfl ?_
    refine g_iconst (pc := 23) C (1 : Int32) d_Mo_reactanceBy_23 (by decide) ?_
    refine g_iload_n (pc := 24) C d_Mo_reactanceBy_24 rfl 2 rfl ?_
    refine g_iload_n (pc := 25) C d_Mo_reactanceBy_25 rfl 3 rfl ?_
    obtain ⟨r6, hc7, h⟩ := o_bn1 h
    refine g_V (pc := 26) (rest := []) C (k_Mo_turnedValue (xl X) ha0 hc7) sm_Mo_turnedValue ml_Mo_148 im_Mo_turnedValue se_Mo_turnedValue gcX11 rfl ha0 ⟨rfl, rfl, Nat.le_of_ble_eq_true rfl, Nat.le_of_ble_eq_true rfl⟩ ⟨Nat.zero_le _, Nat.zero_le _⟩ rfl rfl (Nat.le_of_ble_eq_true rfl) d_Mo_reactanceBy_26 [.long r6] rfl ?_
    refine g_lstore (pc := 29) (lv' := [(6, .long r6), (4, .long r4), (0, .ref (ad a0)), (1, .int p1), (2, .int p2), (3, .int p3)]) C d_Mo_reactanceBy_29 (by decide) rfl ?_
    refine g_lload (pc := 31) C d_Mo_reactanceBy_31 0 rfl ?_
    refine g_lconst (pc := 33) C (0 : Int64) d_Mo_reactanceBy_33 (by decide) ?_
    refine g_lcmp_ne (pc := 34) C 44 d_Mo_reactanceBy_34 d_Mo_reactanceBy_35 rfl (fun e8 => ?_) (fun e8 => ?_)
    · have h := o_neg e8 h
      refine g_aload_n (pc := 44) C d_Mo_reactanceBy_44 rfl 2 rfl ?_
      refine g_iconst (pc := 45) C (1 : Int32) d_Mo_reactanceBy_45 (by decide) ?_
      obtain ⟨r9, hc10, h⟩ := o_bn1 h
      refine g_V (pc := 46) (rest := []) C (k_Mo_sort (xl X) ha0 hc10) sm_Mo_sort ml_Mo_121 im_Mo_sort se_Mo_sort gcX11 rfl ha0 ⟨rfl, rfl, Nat.le_of_ble_eq_true rfl, Nat.le_of_ble_eq_true rfl⟩ ⟨Nat.zero_le _, Nat.zero_le _⟩ rfl rfl (Nat.le_of_ble_eq_true rfl) d_Mo_reactanceBy_46 [.int r9] rfl ?_
      refine g_iconst (pc := 49) C (1 : Int32) d_Mo_reactanceBy_49 (by decide) ?_
      refine g_icmp_ne (pc := 50) C 60 d_Mo_reactanceBy_50 rfl (fun e11 => ?_) (fun e11 => ?_)
      · have h := o_neg e11 h
        refine g_lload (pc := 60) C d_Mo_reactanceBy_60 1 rfl ?_
        refine g_lv [5, 0] rfl ?_
        exact w_Mo_reactanceBy_62 C ha0 h
      · have h := o_pos e11 h
        refine g_lconst (pc := 53) C (0 : Int64) d_Mo_reactanceBy_53 (by decide) ?_
        refine g_lload (pc := 54) C d_Mo_reactanceBy_54 1 rfl ?_
        refine g_lsub (pc := 56) C d_Mo_reactanceBy_56 ?_
        refine g_goto (pc := 57) C 62 d_Mo_reactanceBy_57 rfl ?_
        refine g_lv [5, 0] rfl ?_
        exact w_Mo_reactanceBy_62 C ha0 h
    · have h := o_pos e8 h
      refine g_bipush (pc := 38) C (-3 : Int32) d_Mo_reactanceBy_38 (by decide) ?_
      obtain ⟨r12, hc13, h⟩ := o_bn1 h
      refine g_S (pc := 40) (rest := []) C (k_Mo_no (xl X)  hc13) sm_Mo_no ml_Mo_107 st_Mo_no ⟨rfl, rfl, Nat.le_of_ble_eq_true rfl, Nat.le_of_ble_eq_true rfl⟩ ⟨Nat.zero_le _, Nat.zero_le _⟩ rfl rfl (Nat.le_of_ble_eq_true rfl) d_Mo_reactanceBy_40 [.long r12] rfl ?_
      obtain rfl := o_ret h
      exact g_lret (pc := 43) C d_Mo_reactanceBy_43
  · have h := o_pos e3 h
    refine g_bipush (pc := 7) C (-3 : Int32) d_Mo_reactanceBy_7 (by decide) ?_
    obtain ⟨r14, hc15, h⟩ := o_bn1 h
    refine g_S (pc := 9) (rest := []) C (k_Mo_no (xl X)  hc15) sm_Mo_no ml_Mo_107 st_Mo_no ⟨rfl, rfl, Nat.le_of_ble_eq_true rfl, Nat.le_of_ble_eq_true rfl⟩ ⟨Nat.zero_le _, Nat.zero_le _⟩ rfl rfl (Nat.le_of_ble_eq_true rfl) d_Mo_reactanceBy_9 [.long r14] rfl ?_
    obtain rfl := o_ret h
    exact g_lret (pc := 12) C d_Mo_reactanceBy_12
set_option maxRecDepth 20000 in
theorem k_Mo_reactanceBy (l : Launch) {I : HI} {J : HJ} {N : HN} {a0 : Nat} {p1 : Int32} {p2 : Int32} {p3 : Int32} {r : Int64} (ha0 : gk Tm nM a0 (0, 11)) (h : Mo_reactanceBy I N a0 p1 p2 p3 = some r) : gM l y_Mo_reactanceBy c_Mo_reactanceBy 10 (some .long) rm_Mo_reactanceBy Tm nM I J N (fun ad => [.ref (ad a0), .int p1, .int p2, .int p3]) (I, J, N, fun _ => some (.long r)) :=
  g_meth (lv := fun ad => [(0, .ref (ad a0)), (1, .int p1), (2, .int p2), (3, .int p3)]) (by decide) (fun _ => Nat.le_of_ble_eq_true rfl) (fun _ => rfl) (fun X ad C => g_lv [0, 1, 2, 3] rfl (w_Mo_reactanceBy_0 C ha0 h))
theorem d_Mo_reactance_0 : decode c_Mo_reactance 0 = .ok (.iload_n 1, 1) := by decide +kernel
theorem d_Mo_reactance_1 : decode c_Mo_reactance 1 = .ok (.i2l, 1) := by decide +kernel
theorem d_Mo_reactance_2 : decode c_Mo_reactance 2 = .ok (.lconst 1, 1) := by decide +kernel
theorem d_Mo_reactance_3 : decode c_Mo_reactance 3 = .ok (.ldc2_w 118, 3) := by decide +kernel
theorem d_Mo_reactance_6 : decode c_Mo_reactance 6 = .ok (.invokestatic 83, 3) := by decide +kernel
theorem d_Mo_reactance_9 : decode c_Mo_reactance 9 = .ok (.ifCond .eq 32, 3) := by decide +kernel
theorem d_Mo_reactance_12 : decode c_Mo_reactance 12 = .ok (.iload_n 2, 1) := by decide +kernel
theorem d_Mo_reactance_13 : decode c_Mo_reactance 13 = .ok (.i2l, 1) := by decide +kernel
theorem d_Mo_reactance_14 : decode c_Mo_reactance 14 = .ok (.lconst 1, 1) := by decide +kernel
theorem d_Mo_reactance_15 : decode c_Mo_reactance 15 = .ok (.ldc2_w 118, 3) := by decide +kernel
theorem d_Mo_reactance_18 : decode c_Mo_reactance 18 = .ok (.invokestatic 83, 3) := by decide +kernel
theorem d_Mo_reactance_21 : decode c_Mo_reactance 21 = .ok (.ifCond .eq 20, 3) := by decide +kernel
theorem d_Mo_reactance_24 : decode c_Mo_reactance 24 = .ok (.iload_n 3, 1) := by decide +kernel
theorem d_Mo_reactance_25 : decode c_Mo_reactance 25 = .ok (.invokestatic 111, 3) := by decide +kernel
theorem d_Mo_reactance_28 : decode c_Mo_reactance 28 = .ok (.ifCond .eq 13, 3) := by decide +kernel
theorem d_Mo_reactance_31 : decode c_Mo_reactance 31 = .ok (.aload_n 0, 1) := by decide +kernel
theorem d_Mo_reactance_32 : decode c_Mo_reactance 32 = .ok (.iload_n 1, 1) := by decide +kernel
theorem d_Mo_reactance_33 : decode c_Mo_reactance 33 = .ok (.iload_n 2, 1) := by decide +kernel
theorem d_Mo_reactance_34 : decode c_Mo_reactance 34 = .ok (.iload_n 3, 1) := by decide +kernel
theorem d_Mo_reactance_35 : decode c_Mo_reactance 35 = .ok (.invokevirtual 156, 3) := by decide +kernel
theorem d_Mo_reactance_38 : decode c_Mo_reactance 38 = .ok (.goto 8, 3) := by decide +kernel
theorem d_Mo_reactance_41 : decode c_Mo_reactance 41 = .ok (.bipush (-2), 2) := by decide +kernel
theorem d_Mo_reactance_43 : decode c_Mo_reactance 43 = .ok (.invokestatic 107, 3) := by decide +kernel
theorem d_Mo_reactance_46 : decode c_Mo_reactance 46 = .ok (.lreturn, 1) := by decide +kernel
set_option maxRecDepth 20000 in
theorem w_Mo_reactance_41 {X : HX} {ad : Nat → Nat} {I : HI} {J : HJ} {N : HN} {r : Int64} {a0 : Nat} {p1 : Int32} {p2 : Int32} {p3 : Int32} (C : Cx X c_Mo_reactance RX11 4 (some .long) rm_Mo_reactance) (ha0 : gk Tm nM a0 (0, 11))
    (h : Mo_reactance_41 I N a0 p1 p2 p3 = some r) : G Tm X ad nM 0 0 I J N (gE X Tm ad nM (I, J, N, fun _ => some (.long r))) 41 4 [] [] := by
  refine g_bipush (pc := 41) C (-2 : Int32) d_Mo_reactance_41 (by decide) ?_
  obtain ⟨r1, hc2, h⟩ := o_bn1 h
  refine g_S (pc := 43) (rest := []) C (k_Mo_no (xl X)  hc2) sm_Mo_no ml_Mo_107 st_Mo_no ⟨rfl, rfl, Nat.le_of_ble_eq_true rfl, Nat.le_of_ble_eq_true rfl⟩ ⟨Nat.zero_le _, Nat.zero_le _⟩ rfl rfl (Nat.le_of_ble_eq_true rfl) d_Mo_reactance_43 [.long r1] rfl ?_
  obtain rfl := o_ret h
  exact g_lret (pc := 46) C d_Mo_reactance_46
set_option maxRecDepth 20000 in
theorem w_Mo_reactance_0 {X : HX} {ad : Nat → Nat} {I : HI} {J : HJ} {N : HN} {r : Int64} {a0 : Nat} {p1 : Int32} {p2 : Int32} {p3 : Int32} (C : Cx X c_Mo_reactance RX11 4 (some .long) rm_Mo_reactance) (ha0 : gk Tm nM a0 (0, 11))
    (h : Mo_reactance_0 I N a0 p1 p2 p3 = some r) : G Tm X ad nM 0 0 I J N (gE X Tm ad nM (I, J, N, fun _ => some (.long r))) 0 4 [(0, .ref (ad a0)), (1, .int p1), (2, .int p2), (3, .int p3)] [] := by
  refine g_iload_n (pc := 0) C d_Mo_reactance_0 rfl 1 rfl ?_
  refine g_i2l (pc := 1) C d_Mo_reactance_1 ?_
  refine g_lconst (pc := 2) C (1 : Int64) d_Mo_reactance_2 (by decide) ?_
  refine g_ldc2 (pc := 3) C kc_Mo_118 d_Mo_reactance_3 ?_
  obtain ⟨r1, hc2, h⟩ := o_bn1 h
  refine g_S (pc := 6) (rest := []) C (k_Mo_in (xl X)  hc2) sm_Mo_in ml_Mo_83 st_Mo_in ⟨rfl, rfl, Nat.le_of_ble_eq_true rfl, Nat.le_of_ble_eq_true rfl⟩ ⟨Nat.zero_le _, Nat.zero_le _⟩ rfl rfl (Nat.le_of_ble_eq_true rfl) d_Mo_reactance_6 [.int r1] rfl ?_
  refine g_if_eq (pc := 9) C 41 d_Mo_reactance_9 rfl (fun e3 => ?_) (fun e3 => ?_)
  · have h := o_pos e3 h
    refine g_lv [] rfl ?_
    exact w_Mo_reactance_41 C ha0 h
  · have h := o_neg e3 h
    refine g_iload_n (pc := 12) C d_Mo_reactance_12 rfl 2 rfl ?_
    refine g_i2l (pc := 13) C d_Mo_reactance_13 ?_
    refine g_lconst (pc := 14) C (1 : Int64) d_Mo_reactance_14 (by decide) ?_
    refine g_ldc2 (pc := 15) C kc_Mo_118 d_Mo_reactance_15 ?_
    obtain ⟨r4, hc5, h⟩ := o_bn1 h
    refine g_S (pc := 18) (rest := []) C (k_Mo_in (xl X)  hc5) sm_Mo_in ml_Mo_83 st_Mo_in ⟨rfl, rfl, Nat.le_of_ble_eq_true rfl, Nat.le_of_ble_eq_true rfl⟩ ⟨Nat.zero_le _, Nat.zero_le _⟩ rfl rfl (Nat.le_of_ble_eq_true rfl) d_Mo_reactance_18 [.int r4] rfl ?_
    refine g_if_eq (pc := 21) C 41 d_Mo_reactance_21 rfl (fun e6 => ?_) (fun e6 => ?_)
    · have h := o_pos e6 h
      refine g_lv [] rfl ?_
      exact w_Mo_reactance_41 C ha0 h
    · have h := o_neg e6 h
      refine g_iload_n (pc := 24) C d_Mo_reactance_24 rfl 3 rfl ?_
      obtain ⟨r7, hc8, h⟩ := o_bn1 h
      refine g_S (pc := 25) (rest := []) C (k_Mo_isTwo (xl X)  hc8) sm_Mo_isTwo ml_Mo_111 st_Mo_isTwo ⟨rfl, rfl, Nat.le_of_ble_eq_true rfl, Nat.le_of_ble_eq_true rfl⟩ ⟨Nat.zero_le _, Nat.zero_le _⟩ rfl rfl (Nat.le_of_ble_eq_true rfl) d_Mo_reactance_25 [.int r7] rfl ?_
      refine g_if_eq (pc := 28) C 41 d_Mo_reactance_28 rfl (fun e9 => ?_) (fun e9 => ?_)
      · have h := o_pos e9 h
        refine g_lv [] rfl ?_
        exact w_Mo_reactance_41 C ha0 h
      · have h := o_neg e9 h
        refine g_aload_n (pc := 31) C d_Mo_reactance_31 rfl 0 rfl ?_
        refine g_iload_n (pc := 32) C d_Mo_reactance_32 rfl 1 rfl ?_
        refine g_iload_n (pc := 33) C d_Mo_reactance_33 rfl 2 rfl ?_
        refine g_iload_n (pc := 34) C d_Mo_reactance_34 rfl 3 rfl ?_
        obtain ⟨r10, hc11, h⟩ := o_bn1 h
        refine g_V (pc := 35) (rest := []) C (k_Mo_reactanceBy (xl X) ha0 hc11) sm_Mo_reactanceBy ml_Mo_156 im_Mo_reactanceBy se_Mo_reactanceBy gcX11 rfl ha0 ⟨rfl, rfl, Nat.le_of_ble_eq_true rfl, Nat.le_of_ble_eq_true rfl⟩ ⟨Nat.zero_le _, Nat.zero_le _⟩ rfl rfl (Nat.le_of_ble_eq_true rfl) d_Mo_reactance_35 [.long r10] rfl ?_
        refine g_goto (pc := 38) C 46 d_Mo_reactance_38 rfl ?_
        obtain rfl := o_ret h
        exact g_lret (pc := 46) C d_Mo_reactance_46
set_option maxRecDepth 20000 in
theorem k_Mo_reactance (l : Launch) {I : HI} {J : HJ} {N : HN} {a0 : Nat} {p1 : Int32} {p2 : Int32} {p3 : Int32} {r : Int64} (ha0 : gk Tm nM a0 (0, 11)) (h : Mo_reactance I N a0 p1 p2 p3 = some r) : gM l y_Mo_reactance c_Mo_reactance 4 (some .long) rm_Mo_reactance Tm nM I J N (fun ad => [.ref (ad a0), .int p1, .int p2, .int p3]) (I, J, N, fun _ => some (.long r)) :=
  g_meth (lv := fun ad => [(0, .ref (ad a0)), (1, .int p1), (2, .int p2), (3, .int p3)]) (by decide) (fun _ => Nat.le_of_ble_eq_true rfl) (fun _ => rfl) (fun X ad C => g_lv [0, 1, 2, 3] rfl (w_Mo_reactance_0 C ha0 h))
theorem d_Mo_valuesIn_0 : decode c_Mo_valuesIn 0 = .ok (.iconst 0, 1) := by decide +kernel
theorem d_Mo_valuesIn_1 : decode c_Mo_valuesIn 1 = .ok (.istore_n 2, 1) := by decide +kernel
theorem d_Mo_valuesIn_2 : decode c_Mo_valuesIn 2 = .ok (.iconst 0, 1) := by decide +kernel
theorem d_Mo_valuesIn_3 : decode c_Mo_valuesIn 3 = .ok (.istore_n 3, 1) := by decide +kernel
theorem d_Mo_valuesIn_4 : decode c_Mo_valuesIn 4 = .ok (.iload_n 3, 1) := by decide +kernel
theorem d_Mo_valuesIn_5 : decode c_Mo_valuesIn 5 = .ok (.iload_n 1, 1) := by decide +kernel
theorem d_Mo_valuesIn_6 : decode c_Mo_valuesIn 6 = .ok (.if_icmp .ge 43, 3) := by decide +kernel
theorem d_Mo_valuesIn_9 : decode c_Mo_valuesIn 9 = .ok (.iload_n 2, 1) := by decide +kernel
theorem d_Mo_valuesIn_10 : decode c_Mo_valuesIn 10 = .ok (.aload_n 0, 1) := by decide +kernel
theorem d_Mo_valuesIn_11 : decode c_Mo_valuesIn 11 = .ok (.iconst 5, 1) := by decide +kernel
theorem d_Mo_valuesIn_12 : decode c_Mo_valuesIn 12 = .ok (.iload_n 3, 1) := by decide +kernel
theorem d_Mo_valuesIn_13 : decode c_Mo_valuesIn 13 = .ok (.imul, 1) := by decide +kernel
theorem d_Mo_valuesIn_14 : decode c_Mo_valuesIn 14 = .ok (.iconst 1, 1) := by decide +kernel
theorem d_Mo_valuesIn_15 : decode c_Mo_valuesIn 15 = .ok (.iadd, 1) := by decide +kernel
theorem d_Mo_valuesIn_16 : decode c_Mo_valuesIn 16 = .ok (.iaload, 1) := by decide +kernel
theorem d_Mo_valuesIn_17 : decode c_Mo_valuesIn 17 = .ok (.ifCond .le 7, 3) := by decide +kernel
theorem d_Mo_valuesIn_20 : decode c_Mo_valuesIn 20 = .ok (.iconst 1, 1) := by decide +kernel
theorem d_Mo_valuesIn_21 : decode c_Mo_valuesIn 21 = .ok (.goto 4, 3) := by decide +kernel
theorem d_Mo_valuesIn_24 : decode c_Mo_valuesIn 24 = .ok (.iconst 0, 1) := by decide +kernel
theorem d_Mo_valuesIn_25 : decode c_Mo_valuesIn 25 = .ok (.aload_n 0, 1) := by decide +kernel
theorem d_Mo_valuesIn_26 : decode c_Mo_valuesIn 26 = .ok (.iconst 5, 1) := by decide +kernel
theorem d_Mo_valuesIn_27 : decode c_Mo_valuesIn 27 = .ok (.iload_n 3, 1) := by decide +kernel
theorem d_Mo_valuesIn_28 : decode c_Mo_valuesIn 28 = .ok (.imul, 1) := by decide +kernel
theorem d_Mo_valuesIn_29 : decode c_Mo_valuesIn 29 = .ok (.iconst 3, 1) := by decide +kernel
theorem d_Mo_valuesIn_30 : decode c_Mo_valuesIn 30 = .ok (.iadd, 1) := by decide +kernel
theorem d_Mo_valuesIn_31 : decode c_Mo_valuesIn 31 = .ok (.iaload, 1) := by decide +kernel
theorem d_Mo_valuesIn_32 : decode c_Mo_valuesIn 32 = .ok (.ifCond .le 7, 3) := by decide +kernel
theorem d_Mo_valuesIn_35 : decode c_Mo_valuesIn 35 = .ok (.iconst 1, 1) := by decide +kernel
theorem d_Mo_valuesIn_36 : decode c_Mo_valuesIn 36 = .ok (.goto 4, 3) := by decide +kernel
theorem d_Mo_valuesIn_39 : decode c_Mo_valuesIn 39 = .ok (.iconst 0, 1) := by decide +kernel
theorem d_Mo_valuesIn_40 : decode c_Mo_valuesIn 40 = .ok (.iadd, 1) := by decide +kernel
theorem d_Mo_valuesIn_41 : decode c_Mo_valuesIn 41 = .ok (.iadd, 1) := by decide +kernel
theorem d_Mo_valuesIn_42 : decode c_Mo_valuesIn 42 = .ok (.istore_n 2, 1) := by decide +kernel
theorem d_Mo_valuesIn_43 : decode c_Mo_valuesIn 43 = .ok (.iinc 3 1, 3) := by decide +kernel
theorem d_Mo_valuesIn_46 : decode c_Mo_valuesIn 46 = .ok (.goto (-42), 3) := by decide +kernel
theorem d_Mo_valuesIn_49 : decode c_Mo_valuesIn 49 = .ok (.iload_n 2, 1) := by decide +kernel
theorem d_Mo_valuesIn_50 : decode c_Mo_valuesIn 50 = .ok (.ireturn, 1) := by decide +kernel
set_option maxRecDepth 20000 in
theorem w_Mo_valuesIn_40 {X : HX} {ad : Nat → Nat} {I : HI} {J : HJ} {N : HN} {r : Int32} {k4 : Int32 → Int32 → Option (Int32)} {a0 : Nat} {p1 : Int32} {x3 : Int32} {s0 : Int32} {s1 : Int32} {s2 : Int32} (C : Cx X c_Mo_valuesIn RX11 4 (some .int) rm_Mo_valuesIn) (ha0 : ga Tm nM a0 1)
    (hk4 : ∀ (x2 : Int32) (x3 : Int32), k4 x2 x3 = some r → G Tm X ad nM 0 0 I J N (gE X Tm ad nM (I, J, N, fun _ => some (.int r))) 4 4 [(0, .ref (ad a0)), (1, .int p1), (2, .int x2), (3, .int x3)] [])
    (h : Mo_valuesIn_40 I a0 p1 k4 x3 s0 s1 s2 = some r) : G Tm X ad nM 0 0 I J N (gE X Tm ad nM (I, J, N, fun _ => some (.int r))) 40 4 [(0, .ref (ad a0)), (1, .int p1), (3, .int x3)] [.int s2, .int s1, .int s0] := by
  refine g_iadd (pc := 40) C d_Mo_valuesIn_40 ?_
  refine g_iadd (pc := 41) C d_Mo_valuesIn_41 ?_
  obtain ⟨v1, ev1, h⟩ := o_bd h
  refine g_topi ev1 ?_
  refine g_istore_n (pc := 42) (lv' := [(2, .int v1), (0, .ref (ad a0)), (1, .int p1), (3, .int x3)]) C d_Mo_valuesIn_42 rfl (by decide) rfl ?_
  refine g_iinc (pc := 43) (q := 3) (lv' := [(3, .int (x3 + 1)), (2, .int v1), (0, .ref (ad a0)), (1, .int p1)]) C d_Mo_valuesIn_43 rfl rfl (by decide) rfl ?_
  refine g_goto (pc := 46) C 4 d_Mo_valuesIn_46 rfl ?_
  refine g_lv [2, 3, 1, 0] rfl ?_
  exact hk4 _ _ h
set_option maxRecDepth 20000 in
theorem w_Mo_valuesIn_25 {X : HX} {ad : Nat → Nat} {I : HI} {J : HJ} {N : HN} {r : Int32} {k4 : Int32 → Int32 → Option (Int32)} {a0 : Nat} {p1 : Int32} {x3 : Int32} {s0 : Int32} {s1 : Int32} (C : Cx X c_Mo_valuesIn RX11 4 (some .int) rm_Mo_valuesIn) (ha0 : ga Tm nM a0 1)
    (hk4 : ∀ (x2 : Int32) (x3 : Int32), k4 x2 x3 = some r → G Tm X ad nM 0 0 I J N (gE X Tm ad nM (I, J, N, fun _ => some (.int r))) 4 4 [(0, .ref (ad a0)), (1, .int p1), (2, .int x2), (3, .int x3)] [])
    (h : Mo_valuesIn_25 I a0 p1 k4 x3 s0 s1 = some r) : G Tm X ad nM 0 0 I J N (gE X Tm ad nM (I, J, N, fun _ => some (.int r))) 25 4 [(0, .ref (ad a0)), (1, .int p1), (3, .int x3)] [.int s1, .int s0] := by
  refine g_aload_n (pc := 25) C d_Mo_valuesIn_25 rfl 0 rfl ?_
  refine g_iconst (pc := 26) C (5 : Int32) d_Mo_valuesIn_26 (by decide) ?_
  refine g_iload_n (pc := 27) C d_Mo_valuesIn_27 rfl 2 rfl ?_
  refine g_imul (pc := 28) C d_Mo_valuesIn_28 ?_
  refine g_iconst (pc := 29) C (3 : Int32) d_Mo_valuesIn_29 (by decide) ?_
  refine g_iadd (pc := 30) C d_Mo_valuesIn_30 ?_
  obtain ⟨hi1, h⟩ := o_gd h
  refine g_iald (pc := 31) C ha0 hi1 d_Mo_valuesIn_31 ?_
  refine g_if_le (pc := 32) C 39 d_Mo_valuesIn_32 rfl (fun e2 => ?_) (fun e2 => ?_)
  · have h := o_pos e2 h
    refine g_iconst (pc := 39) C (0 : Int32) d_Mo_valuesIn_39 (by decide) ?_
    refine g_lv [0, 1, 2] rfl ?_
    exact w_Mo_valuesIn_40 C ha0 hk4 h
  · have h := o_neg e2 h
    refine g_iconst (pc := 35) C (1 : Int32) d_Mo_valuesIn_35 (by decide) ?_
    refine g_goto (pc := 36) C 40 d_Mo_valuesIn_36 rfl ?_
    refine g_lv [0, 1, 2] rfl ?_
    exact w_Mo_valuesIn_40 C ha0 hk4 h
set_option maxRecDepth 20000 in
theorem w_Mo_valuesIn_4b {X : HX} {ad : Nat → Nat} {I : HI} {J : HJ} {N : HN} {r : Int32} {k4 : Int32 → Int32 → Option (Int32)} {a0 : Nat} {p1 : Int32} {x2 : Int32} {x3 : Int32} (C : Cx X c_Mo_valuesIn RX11 4 (some .int) rm_Mo_valuesIn) (ha0 : ga Tm nM a0 1)
    (hk4 : ∀ (x2 : Int32) (x3 : Int32), k4 x2 x3 = some r → G Tm X ad nM 0 0 I J N (gE X Tm ad nM (I, J, N, fun _ => some (.int r))) 4 4 [(0, .ref (ad a0)), (1, .int p1), (2, .int x2), (3, .int x3)] [])
    (h : Mo_valuesIn_4b I a0 p1 k4 x2 x3 = some r) : G Tm X ad nM 0 0 I J N (gE X Tm ad nM (I, J, N, fun _ => some (.int r))) 4 4 [(0, .ref (ad a0)), (1, .int p1), (2, .int x2), (3, .int x3)] [] := by
  refine g_iload_n (pc := 4) C d_Mo_valuesIn_4 rfl 3 rfl ?_
  refine g_iload_n (pc := 5) C d_Mo_valuesIn_5 rfl 1 rfl ?_
  refine g_icmp_ge (pc := 6) C 49 d_Mo_valuesIn_6 rfl (fun e1 => ?_) (fun e1 => ?_)
  · have h := o_pos e1 h
    refine g_iload_n (pc := 49) C d_Mo_valuesIn_49 rfl 2 rfl ?_
    obtain rfl := o_ret h
    exact g_iret (pc := 50) C d_Mo_valuesIn_50
  · have h := o_neg e1 h
    refine g_iload_n (pc := 9) C d_Mo_valuesIn_9 rfl 2 rfl ?_
    refine g_aload_n (pc := 10) C d_Mo_valuesIn_10 rfl 0 rfl ?_
    refine g_iconst (pc := 11) C (5 : Int32) d_Mo_valuesIn_11 (by decide) ?_
    refine g_iload_n (pc := 12) C d_Mo_valuesIn_12 rfl 3 rfl ?_
    refine g_imul (pc := 13) C d_Mo_valuesIn_13 ?_
    refine g_iconst (pc := 14) C (1 : Int32) d_Mo_valuesIn_14 (by decide) ?_
    refine g_iadd (pc := 15) C d_Mo_valuesIn_15 ?_
    obtain ⟨hi2, h⟩ := o_gd h
    refine g_iald (pc := 16) C ha0 hi2 d_Mo_valuesIn_16 ?_
    refine g_if_le (pc := 17) C 24 d_Mo_valuesIn_17 rfl (fun e3 => ?_) (fun e3 => ?_)
    · have h := o_pos e3 h
      refine g_iconst (pc := 24) C (0 : Int32) d_Mo_valuesIn_24 (by decide) ?_
      refine g_lv [0, 1, 3] rfl ?_
      exact w_Mo_valuesIn_25 C ha0 hk4 h
    · have h := o_neg e3 h
      refine g_iconst (pc := 20) C (1 : Int32) d_Mo_valuesIn_20 (by decide) ?_
      refine g_goto (pc := 21) C 25 d_Mo_valuesIn_21 rfl ?_
      refine g_lv [0, 1, 3] rfl ?_
      exact w_Mo_valuesIn_25 C ha0 hk4 h
set_option maxRecDepth 20000 in
theorem w_Mo_valuesIn_4 {X : HX} {ad : Nat → Nat} {I : HI} {J : HJ} {N : HN} {r : Int32} {a0 : Nat} {p1 : Int32} (C : Cx X c_Mo_valuesIn RX11 4 (some .int) rm_Mo_valuesIn) (ha0 : ga Tm nM a0 1) : ∀ (n : Nat) (x2 : Int32) (x3 : Int32), Mo_valuesIn_4 I a0 p1 n x2 x3 = some r → G Tm X ad nM 0 0 I J N (gE X Tm ad nM (I, J, N, fun _ => some (.int r))) 4 4 [(0, .ref (ad a0)), (1, .int p1), (2, .int x2), (3, .int x3)] [] := by
  intro n
  induction n with
  | zero => intro x2 x3 h; cases h
  | succ n ih => intro x2 x3 h; exact w_Mo_valuesIn_4b C ha0 ih h
set_option maxRecDepth 20000 in
theorem w_Mo_valuesIn_0 {X : HX} {ad : Nat → Nat} {I : HI} {J : HJ} {N : HN} {r : Int32} {a0 : Nat} {p1 : Int32} (C : Cx X c_Mo_valuesIn RX11 4 (some .int) rm_Mo_valuesIn) (ha0 : ga Tm nM a0 1)
    (h : Mo_valuesIn_0 I a0 p1 = some r) : G Tm X ad nM 0 0 I J N (gE X Tm ad nM (I, J, N, fun _ => some (.int r))) 0 4 [(0, .ref (ad a0)), (1, .int p1)] [] := by
  refine g_iconst (pc := 0) C (0 : Int32) d_Mo_valuesIn_0 (by decide) ?_
  refine g_istore_n (pc := 1) (lv' := [(2, .int (0 : Int32)), (0, .ref (ad a0)), (1, .int p1)]) C d_Mo_valuesIn_1 rfl (by decide) rfl ?_
  refine g_iconst (pc := 2) C (0 : Int32) d_Mo_valuesIn_2 (by decide) ?_
  refine g_istore_n (pc := 3) (lv' := [(3, .int (0 : Int32)), (2, .int (0 : Int32)), (0, .ref (ad a0)), (1, .int p1)]) C d_Mo_valuesIn_3 rfl (by decide) rfl ?_
  refine g_lv [2, 3, 1, 0] rfl ?_
  exact w_Mo_valuesIn_4 C ha0 _ _ _ h
set_option maxRecDepth 20000 in
theorem k_Mo_valuesIn (l : Launch) {I : HI} {J : HJ} {N : HN} {a0 : Nat} {p1 : Int32} {r : Int32} (ha0 : ga Tm nM a0 1) (h : Mo_valuesIn I a0 p1 = some r) : gM l y_Mo_valuesIn c_Mo_valuesIn 4 (some .int) rm_Mo_valuesIn Tm nM I J N (fun ad => [.ref (ad a0), .int p1]) (I, J, N, fun _ => some (.int r)) :=
  g_meth (lv := fun ad => [(0, .ref (ad a0)), (1, .int p1)]) (by decide) (fun _ => Nat.le_of_ble_eq_true rfl) (fun _ => rfl) (fun X ad C => g_lv [0, 1] rfl (w_Mo_valuesIn_0 C ha0 h))
theorem d_Mo_arm_0 : decode c_Mo_arm 0 = .ok (.iload_n 1, 1) := by decide +kernel
theorem d_Mo_arm_1 : decode c_Mo_arm 1 = .ok (.invokestatic 111, 3) := by decide +kernel
theorem d_Mo_arm_4 : decode c_Mo_arm 4 = .ok (.ifCond .eq 33, 3) := by decide +kernel
theorem d_Mo_arm_7 : decode c_Mo_arm 7 = .ok (.iload_n 2, 1) := by decide +kernel
theorem d_Mo_arm_8 : decode c_Mo_arm 8 = .ok (.i2l, 1) := by decide +kernel
theorem d_Mo_arm_9 : decode c_Mo_arm 9 = .ok (.lconst 0, 1) := by decide +kernel
theorem d_Mo_arm_10 : decode c_Mo_arm 10 = .ok (.ldc2_w 118, 3) := by decide +kernel
theorem d_Mo_arm_13 : decode c_Mo_arm 13 = .ok (.invokestatic 83, 3) := by decide +kernel
theorem d_Mo_arm_16 : decode c_Mo_arm 16 = .ok (.ifCond .eq 21, 3) := by decide +kernel
theorem d_Mo_arm_19 : decode c_Mo_arm 19 = .ok (.iload_n 3, 1) := by decide +kernel
theorem d_Mo_arm_20 : decode c_Mo_arm 20 = .ok (.i2l, 1) := by decide +kernel
theorem d_Mo_arm_21 : decode c_Mo_arm 21 = .ok (.lconst 0, 1) := by decide +kernel
theorem d_Mo_arm_22 : decode c_Mo_arm 22 = .ok (.ldc2_w 118, 3) := by decide +kernel
theorem d_Mo_arm_25 : decode c_Mo_arm 25 = .ok (.invokestatic 83, 3) := by decide +kernel
theorem d_Mo_arm_28 : decode c_Mo_arm 28 = .ok (.ifCond .eq 9, 3) := by decide +kernel
theorem d_Mo_arm_31 : decode c_Mo_arm 31 = .ok (.iload_n 2, 1) := by decide +kernel
theorem d_Mo_arm_32 : decode c_Mo_arm 32 = .ok (.iload_n 3, 1) := by decide +kernel
theorem d_Mo_arm_33 : decode c_Mo_arm 33 = .ok (.iadd, 1) := by decide +kernel
theorem d_Mo_arm_34 : decode c_Mo_arm 34 = .ok (.ifCond .ne 6, 3) := by decide +kernel
theorem d_Mo_arm_37 : decode c_Mo_arm 37 = .ok (.bipush (-2), 2) := by decide +kernel
theorem d_Mo_arm_39 : decode c_Mo_arm 39 = .ok (.ireturn, 1) := by decide +kernel
theorem d_Mo_arm_40 : decode c_Mo_arm 40 = .ok (.aload_n 0, 1) := by decide +kernel
theorem d_Mo_arm_41 : decode c_Mo_arm 41 = .ok (.getfield 23, 3) := by decide +kernel
theorem d_Mo_arm_44 : decode c_Mo_arm 44 = .ok (.aload_n 0, 1) := by decide +kernel
theorem d_Mo_arm_45 : decode c_Mo_arm 45 = .ok (.getfield 159, 3) := by decide +kernel
theorem d_Mo_arm_48 : decode c_Mo_arm 48 = .ok (.invokestatic 162, 3) := by decide +kernel
theorem d_Mo_arm_51 : decode c_Mo_arm 51 = .ok (.iload_n 2, 1) := by decide +kernel
theorem d_Mo_arm_52 : decode c_Mo_arm 52 = .ok (.ifCond .le 7, 3) := by decide +kernel
theorem d_Mo_arm_55 : decode c_Mo_arm 55 = .ok (.iconst 1, 1) := by decide +kernel
theorem d_Mo_arm_56 : decode c_Mo_arm 56 = .ok (.goto 4, 3) := by decide +kernel
theorem d_Mo_arm_59 : decode c_Mo_arm 59 = .ok (.iconst 0, 1) := by decide +kernel
theorem d_Mo_arm_60 : decode c_Mo_arm 60 = .ok (.iadd, 1) := by decide +kernel
theorem d_Mo_arm_61 : decode c_Mo_arm 61 = .ok (.iload_n 3, 1) := by decide +kernel
theorem d_Mo_arm_62 : decode c_Mo_arm 62 = .ok (.ifCond .le 7, 3) := by decide +kernel
theorem d_Mo_arm_65 : decode c_Mo_arm 65 = .ok (.iconst 1, 1) := by decide +kernel
theorem d_Mo_arm_66 : decode c_Mo_arm 66 = .ok (.goto 4, 3) := by decide +kernel
theorem d_Mo_arm_69 : decode c_Mo_arm 69 = .ok (.iconst 0, 1) := by decide +kernel
theorem d_Mo_arm_70 : decode c_Mo_arm 70 = .ok (.iadd, 1) := by decide +kernel
theorem d_Mo_arm_71 : decode c_Mo_arm 71 = .ok (.bipush 6, 2) := by decide +kernel
theorem d_Mo_arm_73 : decode c_Mo_arm 73 = .ok (.if_icmp .le 6, 3) := by decide +kernel
theorem d_Mo_arm_76 : decode c_Mo_arm 76 = .ok (.bipush (-4), 2) := by decide +kernel
theorem d_Mo_arm_78 : decode c_Mo_arm 78 = .ok (.ireturn, 1) := by decide +kernel
theorem d_Mo_arm_79 : decode c_Mo_arm 79 = .ok (.aload_n 0, 1) := by decide +kernel
theorem d_Mo_arm_80 : decode c_Mo_arm 80 = .ok (.getfield 23, 3) := by decide +kernel
theorem d_Mo_arm_83 : decode c_Mo_arm 83 = .ok (.iconst 5, 1) := by decide +kernel
theorem d_Mo_arm_84 : decode c_Mo_arm 84 = .ok (.aload_n 0, 1) := by decide +kernel
theorem d_Mo_arm_85 : decode c_Mo_arm 85 = .ok (.getfield 159, 3) := by decide +kernel
theorem d_Mo_arm_88 : decode c_Mo_arm 88 = .ok (.imul, 1) := by decide +kernel
theorem d_Mo_arm_89 : decode c_Mo_arm 89 = .ok (.iload_n 1, 1) := by decide +kernel
theorem d_Mo_arm_90 : decode c_Mo_arm 90 = .ok (.iastore, 1) := by decide +kernel
theorem d_Mo_arm_91 : decode c_Mo_arm 91 = .ok (.aload_n 0, 1) := by decide +kernel
theorem d_Mo_arm_92 : decode c_Mo_arm 92 = .ok (.getfield 23, 3) := by decide +kernel
theorem d_Mo_arm_95 : decode c_Mo_arm 95 = .ok (.iconst 5, 1) := by decide +kernel
theorem d_Mo_arm_96 : decode c_Mo_arm 96 = .ok (.aload_n 0, 1) := by decide +kernel
theorem d_Mo_arm_97 : decode c_Mo_arm 97 = .ok (.getfield 159, 3) := by decide +kernel
theorem d_Mo_arm_100 : decode c_Mo_arm 100 = .ok (.imul, 1) := by decide +kernel
theorem d_Mo_arm_101 : decode c_Mo_arm 101 = .ok (.iconst 1, 1) := by decide +kernel
theorem d_Mo_arm_102 : decode c_Mo_arm 102 = .ok (.iadd, 1) := by decide +kernel
theorem d_Mo_arm_103 : decode c_Mo_arm 103 = .ok (.iload_n 2, 1) := by decide +kernel
theorem d_Mo_arm_104 : decode c_Mo_arm 104 = .ok (.iastore, 1) := by decide +kernel
theorem d_Mo_arm_105 : decode c_Mo_arm 105 = .ok (.aload_n 0, 1) := by decide +kernel
theorem d_Mo_arm_106 : decode c_Mo_arm 106 = .ok (.getfield 23, 3) := by decide +kernel
theorem d_Mo_arm_109 : decode c_Mo_arm 109 = .ok (.iconst 5, 1) := by decide +kernel
theorem d_Mo_arm_110 : decode c_Mo_arm 110 = .ok (.aload_n 0, 1) := by decide +kernel
theorem d_Mo_arm_111 : decode c_Mo_arm 111 = .ok (.getfield 159, 3) := by decide +kernel
theorem d_Mo_arm_114 : decode c_Mo_arm 114 = .ok (.imul, 1) := by decide +kernel
theorem d_Mo_arm_115 : decode c_Mo_arm 115 = .ok (.iconst 2, 1) := by decide +kernel
theorem d_Mo_arm_116 : decode c_Mo_arm 116 = .ok (.iadd, 1) := by decide +kernel
theorem d_Mo_arm_117 : decode c_Mo_arm 117 = .ok (.iload_n 2, 1) := by decide +kernel
theorem d_Mo_arm_118 : decode c_Mo_arm 118 = .ok (.ifCond .le 7, 3) := by decide +kernel
theorem d_Mo_arm_121 : decode c_Mo_arm 121 = .ok (.iconst 1, 1) := by decide +kernel
theorem d_Mo_arm_122 : decode c_Mo_arm 122 = .ok (.goto 4, 3) := by decide +kernel
theorem d_Mo_arm_125 : decode c_Mo_arm 125 = .ok (.iconst 0, 1) := by decide +kernel
theorem d_Mo_arm_126 : decode c_Mo_arm 126 = .ok (.iastore, 1) := by decide +kernel
theorem d_Mo_arm_127 : decode c_Mo_arm 127 = .ok (.aload_n 0, 1) := by decide +kernel
theorem d_Mo_arm_128 : decode c_Mo_arm 128 = .ok (.getfield 23, 3) := by decide +kernel
theorem d_Mo_arm_131 : decode c_Mo_arm 131 = .ok (.iconst 5, 1) := by decide +kernel
theorem d_Mo_arm_132 : decode c_Mo_arm 132 = .ok (.aload_n 0, 1) := by decide +kernel
theorem d_Mo_arm_133 : decode c_Mo_arm 133 = .ok (.getfield 159, 3) := by decide +kernel
theorem d_Mo_arm_136 : decode c_Mo_arm 136 = .ok (.imul, 1) := by decide +kernel
theorem d_Mo_arm_137 : decode c_Mo_arm 137 = .ok (.iconst 3, 1) := by decide +kernel
theorem d_Mo_arm_138 : decode c_Mo_arm 138 = .ok (.iadd, 1) := by decide +kernel
theorem d_Mo_arm_139 : decode c_Mo_arm 139 = .ok (.iload_n 3, 1) := by decide +kernel
theorem d_Mo_arm_140 : decode c_Mo_arm 140 = .ok (.iastore, 1) := by decide +kernel
theorem d_Mo_arm_141 : decode c_Mo_arm 141 = .ok (.aload_n 0, 1) := by decide +kernel
theorem d_Mo_arm_142 : decode c_Mo_arm 142 = .ok (.getfield 23, 3) := by decide +kernel
theorem d_Mo_arm_145 : decode c_Mo_arm 145 = .ok (.iconst 5, 1) := by decide +kernel
theorem d_Mo_arm_146 : decode c_Mo_arm 146 = .ok (.aload_n 0, 1) := by decide +kernel
theorem d_Mo_arm_147 : decode c_Mo_arm 147 = .ok (.getfield 159, 3) := by decide +kernel
theorem d_Mo_arm_150 : decode c_Mo_arm 150 = .ok (.imul, 1) := by decide +kernel
theorem d_Mo_arm_151 : decode c_Mo_arm 151 = .ok (.iconst 4, 1) := by decide +kernel
theorem d_Mo_arm_152 : decode c_Mo_arm 152 = .ok (.iadd, 1) := by decide +kernel
theorem d_Mo_arm_153 : decode c_Mo_arm 153 = .ok (.iload_n 3, 1) := by decide +kernel
theorem d_Mo_arm_154 : decode c_Mo_arm 154 = .ok (.ifCond .le 7, 3) := by decide +kernel
theorem d_Mo_arm_157 : decode c_Mo_arm 157 = .ok (.iconst 1, 1) := by decide +kernel
theorem d_Mo_arm_158 : decode c_Mo_arm 158 = .ok (.goto 4, 3) := by decide +kernel
theorem d_Mo_arm_161 : decode c_Mo_arm 161 = .ok (.iconst 0, 1) := by decide +kernel
theorem d_Mo_arm_162 : decode c_Mo_arm 162 = .ok (.iastore, 1) := by decide +kernel
theorem d_Mo_arm_163 : decode c_Mo_arm 163 = .ok (.aload_n 0, 1) := by decide +kernel
theorem d_Mo_arm_164 : decode c_Mo_arm 164 = .ok (.dup, 1) := by decide +kernel
theorem d_Mo_arm_165 : decode c_Mo_arm 165 = .ok (.getfield 159, 3) := by decide +kernel
theorem d_Mo_arm_168 : decode c_Mo_arm 168 = .ok (.iconst 1, 1) := by decide +kernel
theorem d_Mo_arm_169 : decode c_Mo_arm 169 = .ok (.iadd, 1) := by decide +kernel
theorem d_Mo_arm_170 : decode c_Mo_arm 170 = .ok (.putfield 159, 3) := by decide +kernel
theorem d_Mo_arm_173 : decode c_Mo_arm 173 = .ok (.aload_n 0, 1) := by decide +kernel
theorem d_Mo_arm_174 : decode c_Mo_arm 174 = .ok (.getfield 159, 3) := by decide +kernel
theorem d_Mo_arm_177 : decode c_Mo_arm 177 = .ok (.iconst 1, 1) := by decide +kernel
theorem d_Mo_arm_178 : decode c_Mo_arm 178 = .ok (.isub, 1) := by decide +kernel
theorem d_Mo_arm_179 : decode c_Mo_arm 179 = .ok (.ireturn, 1) := by decide +kernel
set_option maxRecDepth 20000 in
theorem w_Mo_arm_162 {X : HX} {ad : Nat → Nat} {I : HI} {J : HJ} {N : HN} {r : HI × Int32} {a0 : Nat} {p1 : Int32} {p2 : Int32} {p3 : Int32} {bs0 : Nat} {s1 : Int32} {s2 : Int32} (C : Cx X c_Mo_arm RX11 4 (some .int) rm_Mo_arm) (ha0 : gk Tm nM a0 (0, 11)) (hbs0 : ga Tm nM bs0 1)
    (h : Mo_arm_162 N a0 p1 p2 p3 I bs0 s1 s2 = some r) : G Tm X ad nM 0 0 I J N (gE X Tm ad nM (r.1, J, N, fun _ => some (.int r.2))) 162 4 [(0, .ref (ad a0))] [.int s2, .int s1, .ref (ad bs0)] := by
  obtain ⟨hi1, h⟩ := o_gd h
  refine g_iast (pc := 162) C hbs0 hi1 d_Mo_arm_162 ?_
  obtain ⟨I2, eI2, h⟩ := o_bd h
  rw [← eI2]
  refine g_aload_n (pc := 163) C d_Mo_arm_163 rfl 0 rfl ?_
  refine g_dup (pc := 164) C d_Mo_arm_164 rfl ?_
  refine g_get (pc := 165) (k := 6) (v := .int (I2 a0 6)) C gcX11 inX11 (by decide) fl_Mo_159 ha0 rfl d_Mo_arm_165 ?_
  refine g_iconst (pc := 168) C (1 : Int32) d_Mo_arm_168 (by decide) ?_
  refine g_iadd (pc := 169) C d_Mo_arm_169 ?_
  refine g_put (pc := 170) (I' := up2 I2 a0 6 ((I2 a0 6) + (1 : Int32))) (J' := J) (N' := N) (k := 6) C gcX11 inX11 tyX11_ok nmX11 (by decide) fl_Mo_159 rfl ha0 (tyX11_ok 6 (by decide)) rfl rfl (Nat.le_of_ble_eq_true rfl) gs_11_6 (fun b hb => up2_of hb) (fun _ _ => rfl) (fun _ _ => rfl) d_Mo_arm_170 ?_
  obtain ⟨I3, eI3, h⟩ := o_bd h
  rw [← eI3]
  refine g_aload_n (pc := 173) C d_Mo_arm_173 rfl 0 rfl ?_
  refine g_get (pc := 174) (k := 6) (v := .int (I3 a0 6)) C gcX11 inX11 (by decide) fl_Mo_159 ha0 rfl d_Mo_arm_174 ?_
  refine g_iconst (pc := 177) C (1 : Int32) d_Mo_arm_177 (by decide) ?_
  refine g_isub (pc := 178) C d_Mo_arm_178 ?_
  obtain rfl := o_ret h
  exact g_iret (pc := 179) C d_Mo_arm_179
set_option maxRecDepth 20000 in
theorem w_Mo_arm_126 {X : HX} {ad : Nat → Nat} {I : HI} {J : HJ} {N : HN} {r : HI × Int32} {a0 : Nat} {p1 : Int32} {p2 : Int32} {p3 : Int32} {bs0 : Nat} {s1 : Int32} {s2 : Int32} (C : Cx X c_Mo_arm RX11 4 (some .int) rm_Mo_arm) (ha0 : gk Tm nM a0 (0, 11)) (hbs0 : ga Tm nM bs0 1)
    (h : Mo_arm_126 N a0 p1 p2 p3 I bs0 s1 s2 = some r) : G Tm X ad nM 0 0 I J N (gE X Tm ad nM (r.1, J, N, fun _ => some (.int r.2))) 126 4 [(0, .ref (ad a0)), (3, .int p3)] [.int s2, .int s1, .ref (ad bs0)] := by
  obtain ⟨hi1, h⟩ := o_gd h
  refine g_iast (pc := 126) C hbs0 hi1 d_Mo_arm_126 ?_
  obtain ⟨I2, eI2, h⟩ := o_bd h
  rw [← eI2]
  refine g_aload_n (pc := 127) C d_Mo_arm_127 rfl 0 rfl ?_
  obtain ⟨b3, hnb3, hb3, h⟩ := o_ra h
  refine g_get (pc := 128) (k := 5) (v := va_rf ((N a0 5).map ad)) C gcX11 inX11 (by decide) fl_Mo_23 ha0 rfl d_Mo_arm_128 ?_
  refine g_top (g_rf hnb3) ?_
  refine g_iconst (pc := 131) C (5 : Int32) d_Mo_arm_131 (by decide) ?_
  refine g_aload_n (pc := 132) C d_Mo_arm_132 rfl 0 rfl ?_
  refine g_get (pc := 133) (k := 6) (v := .int (I2 a0 6)) C gcX11 inX11 (by decide) fl_Mo_159 ha0 rfl d_Mo_arm_133 ?_
  refine g_imul (pc := 136) C d_Mo_arm_136 ?_
  refine g_iconst (pc := 137) C (3 : Int32) d_Mo_arm_137 (by decide) ?_
  refine g_iadd (pc := 138) C d_Mo_arm_138 ?_
  refine g_iload_n (pc := 139) C d_Mo_arm_139 rfl 1 rfl ?_
  obtain ⟨hi4, h⟩ := o_gd h
  refine g_iast (pc := 140) C hb3 hi4 d_Mo_arm_140 ?_
  obtain ⟨I5, eI5, h⟩ := o_bd h
  rw [← eI5]
  refine g_aload_n (pc := 141) C d_Mo_arm_141 rfl 0 rfl ?_
  obtain ⟨b6, hnb6, hb6, h⟩ := o_ra h
  refine g_get (pc := 142) (k := 5) (v := va_rf ((N a0 5).map ad)) C gcX11 inX11 (by decide) fl_Mo_23 ha0 rfl d_Mo_arm_142 ?_
  refine g_top (g_rf hnb6) ?_
  refine g_iconst (pc := 145) C (5 : Int32) d_Mo_arm_145 (by decide) ?_
  refine g_aload_n (pc := 146) C d_Mo_arm_146 rfl 0 rfl ?_
  refine g_get (pc := 147) (k := 6) (v := .int (I5 a0 6)) C gcX11 inX11 (by decide) fl_Mo_159 ha0 rfl d_Mo_arm_147 ?_
  refine g_imul (pc := 150) C d_Mo_arm_150 ?_
  refine g_iconst (pc := 151) C (4 : Int32) d_Mo_arm_151 (by decide) ?_
  refine g_iadd (pc := 152) C d_Mo_arm_152 ?_
  refine g_iload_n (pc := 153) C d_Mo_arm_153 rfl 1 rfl ?_
  refine g_if_le (pc := 154) C 161 d_Mo_arm_154 rfl (fun e7 => ?_) (fun e7 => ?_)
  · have h := o_pos e7 h
    refine g_iconst (pc := 161) C (0 : Int32) d_Mo_arm_161 (by decide) ?_
    refine g_lv [0] rfl ?_
    exact w_Mo_arm_162 C ha0 hb6 h
  · have h := o_neg e7 h
    refine g_iconst (pc := 157) C (1 : Int32) d_Mo_arm_157 (by decide) ?_
    refine g_goto (pc := 158) C 162 d_Mo_arm_158 rfl ?_
    refine g_lv [0] rfl ?_
    exact w_Mo_arm_162 C ha0 hb6 h
set_option maxRecDepth 20000 in
theorem w_Mo_arm_70 {X : HX} {ad : Nat → Nat} {I : HI} {J : HJ} {N : HN} {r : HI × Int32} {a0 : Nat} {p1 : Int32} {p2 : Int32} {p3 : Int32} {s0 : Int32} {s1 : Int32} (C : Cx X c_Mo_arm RX11 4 (some .int) rm_Mo_arm) (ha0 : gk Tm nM a0 (0, 11))
    (h : Mo_arm_70 N a0 p1 p2 p3 I s0 s1 = some r) : G Tm X ad nM 0 0 I J N (gE X Tm ad nM (r.1, J, N, fun _ => some (.int r.2))) 70 4 [(0, .ref (ad a0)), (1, .int p1), (2, .int p2), (3, .int p3)] [.int s1, .int s0] := by
  refine g_iadd (pc := 70) C d_Mo_arm_70 ?_
  refine g_bipush (pc := 71) C (6 : Int32) d_Mo_arm_71 (by decide) ?_
  refine g_icmp_le (pc := 73) C 79 d_Mo_arm_73 rfl (fun e1 => ?_) (fun e1 => ?_)
  · have h := o_pos e1 h
    refine g_aload_n (pc := 79) C d_Mo_arm_79 rfl 0 rfl ?_
    obtain ⟨b2, hnb2, hb2, h⟩ := o_ra h
    refine g_get (pc := 80) (k := 5) (v := va_rf ((N a0 5).map ad)) C gcX11 inX11 (by decide) fl_Mo_23 ha0 rfl d_Mo_arm_80 ?_
    refine g_top (g_rf hnb2) ?_
    refine g_iconst (pc := 83) C (5 : Int32) d_Mo_arm_83 (by decide) ?_
    refine g_aload_n (pc := 84) C d_Mo_arm_84 rfl 0 rfl ?_
    refine g_get (pc := 85) (k := 6) (v := .int (I a0 6)) C gcX11 inX11 (by decide) fl_Mo_159 ha0 rfl d_Mo_arm_85 ?_
    refine g_imul (pc := 88) C d_Mo_arm_88 ?_
    refine g_iload_n (pc := 89) C d_Mo_arm_89 rfl 1 rfl ?_
    obtain ⟨hi3, h⟩ := o_gd h
    refine g_iast (pc := 90) C hb2 hi3 d_Mo_arm_90 ?_
    obtain ⟨I4, eI4, h⟩ := o_bd h
    rw [← eI4]
    refine g_aload_n (pc := 91) C d_Mo_arm_91 rfl 0 rfl ?_
    obtain ⟨b5, hnb5, hb5, h⟩ := o_ra h
    refine g_get (pc := 92) (k := 5) (v := va_rf ((N a0 5).map ad)) C gcX11 inX11 (by decide) fl_Mo_23 ha0 rfl d_Mo_arm_92 ?_
    refine g_top (g_rf hnb5) ?_
    refine g_iconst (pc := 95) C (5 : Int32) d_Mo_arm_95 (by decide) ?_
    refine g_aload_n (pc := 96) C d_Mo_arm_96 rfl 0 rfl ?_
    refine g_get (pc := 97) (k := 6) (v := .int (I4 a0 6)) C gcX11 inX11 (by decide) fl_Mo_159 ha0 rfl d_Mo_arm_97 ?_
    refine g_imul (pc := 100) C d_Mo_arm_100 ?_
    refine g_iconst (pc := 101) C (1 : Int32) d_Mo_arm_101 (by decide) ?_
    refine g_iadd (pc := 102) C d_Mo_arm_102 ?_
    refine g_iload_n (pc := 103) C d_Mo_arm_103 rfl 2 rfl ?_
    obtain ⟨hi6, h⟩ := o_gd h
    refine g_iast (pc := 104) C hb5 hi6 d_Mo_arm_104 ?_
    obtain ⟨I7, eI7, h⟩ := o_bd h
    rw [← eI7]
    refine g_aload_n (pc := 105) C d_Mo_arm_105 rfl 0 rfl ?_
    obtain ⟨b8, hnb8, hb8, h⟩ := o_ra h
    refine g_get (pc := 106) (k := 5) (v := va_rf ((N a0 5).map ad)) C gcX11 inX11 (by decide) fl_Mo_23 ha0 rfl d_Mo_arm_106 ?_
    refine g_top (g_rf hnb8) ?_
    refine g_iconst (pc := 109) C (5 : Int32) d_Mo_arm_109 (by decide) ?_
    refine g_aload_n (pc := 110) C d_Mo_arm_110 rfl 0 rfl ?_
    refine g_get (pc := 111) (k := 6) (v := .int (I7 a0 6)) C gcX11 inX11 (by decide) fl_Mo_159 ha0 rfl d_Mo_arm_111 ?_
    refine g_imul (pc := 114) C d_Mo_arm_114 ?_
    refine g_iconst (pc := 115) C (2 : Int32) d_Mo_arm_115 (by decide) ?_
    refine g_iadd (pc := 116) C d_Mo_arm_116 ?_
    refine g_iload_n (pc := 117) C d_Mo_arm_117 rfl 2 rfl ?_
    refine g_if_le (pc := 118) C 125 d_Mo_arm_118 rfl (fun e9 => ?_) (fun e9 => ?_)
    · have h := o_pos e9 h
      refine g_iconst (pc := 125) C (0 : Int32) d_Mo_arm_125 (by decide) ?_
      refine g_lv [0, 3] rfl ?_
      exact w_Mo_arm_126 C ha0 hb8 h
    · have h := o_neg e9 h
      refine g_iconst (pc := 121) C (1 : Int32) d_Mo_arm_121 (by decide) ?_
      refine g_goto (pc := 122) C 126 d_Mo_arm_122 rfl ?_
      refine g_lv [0, 3] rfl ?_
      exact w_Mo_arm_126 C ha0 hb8 h
  · have h := o_neg e1 h
    refine g_bipush (pc := 76) C (-4 : Int32) d_Mo_arm_76 (by decide) ?_
    obtain rfl := o_ret h
    exact g_iret (pc := 78) C d_Mo_arm_78
set_option maxRecDepth 20000 in
theorem w_Mo_arm_60 {X : HX} {ad : Nat → Nat} {I : HI} {J : HJ} {N : HN} {r : HI × Int32} {a0 : Nat} {p1 : Int32} {p2 : Int32} {p3 : Int32} {s0 : Int32} {s1 : Int32} (C : Cx X c_Mo_arm RX11 4 (some .int) rm_Mo_arm) (ha0 : gk Tm nM a0 (0, 11))
    (h : Mo_arm_60 N a0 p1 p2 p3 I s0 s1 = some r) : G Tm X ad nM 0 0 I J N (gE X Tm ad nM (r.1, J, N, fun _ => some (.int r.2))) 60 4 [(0, .ref (ad a0)), (1, .int p1), (2, .int p2), (3, .int p3)] [.int s1, .int s0] := by
  refine g_iadd (pc := 60) C d_Mo_arm_60 ?_
  refine g_iload_n (pc := 61) C d_Mo_arm_61 rfl 3 rfl ?_
  refine g_if_le (pc := 62) C 69 d_Mo_arm_62 rfl (fun e1 => ?_) (fun e1 => ?_)
  · have h := o_pos e1 h
    refine g_iconst (pc := 69) C (0 : Int32) d_Mo_arm_69 (by decide) ?_
    refine g_lv [0, 1, 2, 3] rfl ?_
    exact w_Mo_arm_70 C ha0 h
  · have h := o_neg e1 h
    refine g_iconst (pc := 65) C (1 : Int32) d_Mo_arm_65 (by decide) ?_
    refine g_goto (pc := 66) C 70 d_Mo_arm_66 rfl ?_
    refine g_lv [0, 1, 2, 3] rfl ?_
    exact w_Mo_arm_70 C ha0 h
set_option maxRecDepth 20000 in
theorem w_Mo_arm_0 {X : HX} {ad : Nat → Nat} {I : HI} {J : HJ} {N : HN} {r : HI × Int32} {a0 : Nat} {p1 : Int32} {p2 : Int32} {p3 : Int32} (C : Cx X c_Mo_arm RX11 4 (some .int) rm_Mo_arm) (ha0 : gk Tm nM a0 (0, 11))
    (h : Mo_arm_0 N a0 p1 p2 p3 I = some r) : G Tm X ad nM 0 0 I J N (gE X Tm ad nM (r.1, J, N, fun _ => some (.int r.2))) 0 4 [(0, .ref (ad a0)), (1, .int p1), (2, .int p2), (3, .int p3)] [] := by
  refine g_iload_n (pc := 0) C d_Mo_arm_0 rfl 1 rfl ?_
  obtain ⟨r1, hc2, h⟩ := o_bn1 h
  refine g_S (pc := 1) (rest := []) C (k_Mo_isTwo (xl X)  hc2) sm_Mo_isTwo ml_Mo_111 st_Mo_isTwo ⟨rfl, rfl, Nat.le_of_ble_eq_true rfl, Nat.le_of_ble_eq_true rfl⟩ ⟨Nat.zero_le _, Nat.zero_le _⟩ rfl rfl (Nat.le_of_ble_eq_true rfl) d_Mo_arm_1 [.int r1] rfl ?_
  refine g_if_eq (pc := 4) C 37 d_Mo_arm_4 rfl (fun e3 => ?_) (fun e3 => ?_)
  · have h := o_pos e3 h
    refine g_bipush (pc := 37) C (-2 : Int32) d_Mo_arm_37 (by decide) ?_
    obtain rfl := o_ret h
    exact g_iret (pc := 39) C d_Mo_arm_39
  · have h := o_neg e3 h
    refine g_iload_n (pc := 7) C d_Mo_arm_7 rfl 2 rfl ?_
    refine g_i2l (pc := 8) C d_Mo_arm_8 ?_
    refine g_lconst (pc := 9) C (0 : Int64) d_Mo_arm_9 (by decide) ?_
    refine g_ldc2 (pc := 10) C kc_Mo_118 d_Mo_arm_10 ?_
    obtain ⟨r4, hc5, h⟩ := o_bn1 h
    refine g_S (pc := 13) (rest := []) C (k_Mo_in (xl X)  hc5) sm_Mo_in ml_Mo_83 st_Mo_in ⟨rfl, rfl, Nat.le_of_ble_eq_true rfl, Nat.le_of_ble_eq_true rfl⟩ ⟨Nat.zero_le _, Nat.zero_le _⟩ rfl rfl (Nat.le_of_ble_eq_true rfl) d_Mo_arm_13 [.int r4] rfl ?_
    refine g_if_eq (pc := 16) C 37 d_Mo_arm_16 rfl (fun e6 => ?_) (fun e6 => ?_)
    · have h := o_pos e6 h
      refine g_bipush (pc := 37) C (-2 : Int32) d_Mo_arm_37 (by decide) ?_
      obtain rfl := o_ret h
      exact g_iret (pc := 39) C d_Mo_arm_39
    · have h := o_neg e6 h
      refine g_iload_n (pc := 19) C d_Mo_arm_19 rfl 3 rfl ?_
      refine g_i2l (pc := 20) C d_Mo_arm_20 ?_
      refine g_lconst (pc := 21) C (0 : Int64) d_Mo_arm_21 (by decide) ?_
      refine g_ldc2 (pc := 22) C kc_Mo_118 d_Mo_arm_22 ?_
      obtain ⟨r7, hc8, h⟩ := o_bn1 h
      refine g_S (pc := 25) (rest := []) C (k_Mo_in (xl X)  hc8) sm_Mo_in ml_Mo_83 st_Mo_in ⟨rfl, rfl, Nat.le_of_ble_eq_true rfl, Nat.le_of_ble_eq_true rfl⟩ ⟨Nat.zero_le _, Nat.zero_le _⟩ rfl rfl (Nat.le_of_ble_eq_true rfl) d_Mo_arm_25 [.int r7] rfl ?_
      refine g_if_eq (pc := 28) C 37 d_Mo_arm_28 rfl (fun e9 => ?_) (fun e9 => ?_)
      · have h := o_pos e9 h
        refine g_bipush (pc := 37) C (-2 : Int32) d_Mo_arm_37 (by decide) ?_
        obtain rfl := o_ret h
        exact g_iret (pc := 39) C d_Mo_arm_39
      · have h := o_neg e9 h
        refine g_iload_n (pc := 31) C d_Mo_arm_31 rfl 2 rfl ?_
        refine g_iload_n (pc := 32) C d_Mo_arm_32 rfl 3 rfl ?_
        refine g_iadd (pc := 33) C d_Mo_arm_33 ?_
        refine g_if_ne (pc := 34) C 40 d_Mo_arm_34 rfl (fun e10 => ?_) (fun e10 => ?_)
        · have h := o_neg e10 h
          refine g_aload_n (pc := 40) C d_Mo_arm_40 rfl 0 rfl ?_
          obtain ⟨b11, hnb11, hb11, h⟩ := o_ra h
          refine g_get (pc := 41) (k := 5) (v := va_rf ((N a0 5).map ad)) C gcX11 inX11 (by decide) fl_Mo_23 ha0 rfl d_Mo_arm_41 ?_
          refine g_top (g_rf hnb11) ?_
          refine g_aload_n (pc := 44) C d_Mo_arm_44 rfl 0 rfl ?_
          refine g_get (pc := 45) (k := 6) (v := .int (I a0 6)) C gcX11 inX11 (by decide) fl_Mo_159 ha0 rfl d_Mo_arm_45 ?_
          obtain ⟨r12, hc13, h⟩ := o_bn1 h
          refine g_S (pc := 48) (rest := []) C (k_Mo_valuesIn (xl X) hb11 hc13) sm_Mo_valuesIn ml_Mo_162 st_Mo_valuesIn ⟨rfl, rfl, Nat.le_of_ble_eq_true rfl, Nat.le_of_ble_eq_true rfl⟩ ⟨Nat.zero_le _, Nat.zero_le _⟩ rfl rfl (Nat.le_of_ble_eq_true rfl) d_Mo_arm_48 [.int r12] rfl ?_
          refine g_iload_n (pc := 51) C d_Mo_arm_51 rfl 2 rfl ?_
          refine g_if_le (pc := 52) C 59 d_Mo_arm_52 rfl (fun e14 => ?_) (fun e14 => ?_)
          · have h := o_pos e14 h
            refine g_iconst (pc := 59) C (0 : Int32) d_Mo_arm_59 (by decide) ?_
            refine g_lv [0, 1, 2, 3] rfl ?_
            exact w_Mo_arm_60 C ha0 h
          · have h := o_neg e14 h
            refine g_iconst (pc := 55) C (1 : Int32) d_Mo_arm_55 (by decide) ?_
            refine g_goto (pc := 56) C 60 d_Mo_arm_56 rfl ?_
            refine g_lv [0, 1, 2, 3] rfl ?_
            exact w_Mo_arm_60 C ha0 h
        · have h := o_pos e10 h
          refine g_bipush (pc := 37) C (-2 : Int32) d_Mo_arm_37 (by decide) ?_
          obtain rfl := o_ret h
          exact g_iret (pc := 39) C d_Mo_arm_39
set_option maxRecDepth 20000 in
theorem k_Mo_arm (l : Launch) {I : HI} {J : HJ} {N : HN} {a0 : Nat} {p1 : Int32} {p2 : Int32} {p3 : Int32} {r : HI × Int32} (ha0 : gk Tm nM a0 (0, 11)) (h : Mo_arm N a0 p1 p2 p3 I = some r) : gM l y_Mo_arm c_Mo_arm 4 (some .int) rm_Mo_arm Tm nM I J N (fun ad => [.ref (ad a0), .int p1, .int p2, .int p3]) (r.1, J, N, fun _ => some (.int r.2)) :=
  g_meth (lv := fun ad => [(0, .ref (ad a0)), (1, .int p1), (2, .int p2), (3, .int p3)]) (by decide) (fun _ => Nat.le_of_ble_eq_true rfl) (fun _ => rfl) (fun X ad C => g_lv [0, 1, 2, 3] rfl (w_Mo_arm_0 C ha0 h))
theorem d_Mo_back_0 : decode c_Mo_back 0 = .ok (.aload_n 0, 1) := by decide +kernel
theorem d_Mo_back_1 : decode c_Mo_back 1 = .ok (.getfield 159, 3) := by decide +kernel
theorem d_Mo_back_4 : decode c_Mo_back 4 = .ok (.ifCond .ne 6, 3) := by decide +kernel
theorem d_Mo_back_7 : decode c_Mo_back 7 = .ok (.bipush (-3), 2) := by decide +kernel
theorem d_Mo_back_9 : decode c_Mo_back 9 = .ok (.ireturn, 1) := by decide +kernel
theorem d_Mo_back_10 : decode c_Mo_back 10 = .ok (.aload_n 0, 1) := by decide +kernel
theorem d_Mo_back_11 : decode c_Mo_back 11 = .ok (.dup, 1) := by decide +kernel
theorem d_Mo_back_12 : decode c_Mo_back 12 = .ok (.getfield 159, 3) := by decide +kernel
theorem d_Mo_back_15 : decode c_Mo_back 15 = .ok (.iconst 1, 1) := by decide +kernel
theorem d_Mo_back_16 : decode c_Mo_back 16 = .ok (.isub, 1) := by decide +kernel
theorem d_Mo_back_17 : decode c_Mo_back 17 = .ok (.putfield 159, 3) := by decide +kernel
theorem d_Mo_back_20 : decode c_Mo_back 20 = .ok (.aload_n 0, 1) := by decide +kernel
theorem d_Mo_back_21 : decode c_Mo_back 21 = .ok (.getfield 159, 3) := by decide +kernel
theorem d_Mo_back_24 : decode c_Mo_back 24 = .ok (.ireturn, 1) := by decide +kernel
set_option maxRecDepth 20000 in
theorem w_Mo_back_0 {X : HX} {ad : Nat → Nat} {I : HI} {J : HJ} {N : HN} {r : HI × Int32} {a0 : Nat} (C : Cx X c_Mo_back RX11 1 (some .int) rm_Mo_back) (ha0 : gk Tm nM a0 (0, 11))
    (h : Mo_back_0 a0 I = some r) : G Tm X ad nM 0 0 I J N (gE X Tm ad nM (r.1, J, N, fun _ => some (.int r.2))) 0 1 [(0, .ref (ad a0))] [] := by
  refine g_aload_n (pc := 0) C d_Mo_back_0 rfl 0 rfl ?_
  refine g_get (pc := 1) (k := 6) (v := .int (I a0 6)) C gcX11 inX11 (by decide) fl_Mo_159 ha0 rfl d_Mo_back_1 ?_
  refine g_if_ne (pc := 4) C 10 d_Mo_back_4 rfl (fun e1 => ?_) (fun e1 => ?_)
  · have h := o_neg e1 h
    refine g_aload_n (pc := 10) C d_Mo_back_10 rfl 0 rfl ?_
    refine g_dup (pc := 11) C d_Mo_back_11 rfl ?_
    refine g_get (pc := 12) (k := 6) (v := .int (I a0 6)) C gcX11 inX11 (by decide) fl_Mo_159 ha0 rfl d_Mo_back_12 ?_
    refine g_iconst (pc := 15) C (1 : Int32) d_Mo_back_15 (by decide) ?_
    refine g_isub (pc := 16) C d_Mo_back_16 ?_
    refine g_put (pc := 17) (I' := up2 I a0 6 ((I a0 6) - (1 : Int32))) (J' := J) (N' := N) (k := 6) C gcX11 inX11 tyX11_ok nmX11 (by decide) fl_Mo_159 rfl ha0 (tyX11_ok 6 (by decide)) rfl rfl (Nat.le_of_ble_eq_true rfl) gs_11_6 (fun b hb => up2_of hb) (fun _ _ => rfl) (fun _ _ => rfl) d_Mo_back_17 ?_
    obtain ⟨I2, eI2, h⟩ := o_bd h
    rw [← eI2]
    refine g_aload_n (pc := 20) C d_Mo_back_20 rfl 0 rfl ?_
    refine g_get (pc := 21) (k := 6) (v := .int (I2 a0 6)) C gcX11 inX11 (by decide) fl_Mo_159 ha0 rfl d_Mo_back_21 ?_
    obtain rfl := o_ret h
    exact g_iret (pc := 24) C d_Mo_back_24
  · have h := o_pos e1 h
    refine g_bipush (pc := 7) C (-3 : Int32) d_Mo_back_7 (by decide) ?_
    obtain rfl := o_ret h
    exact g_iret (pc := 9) C d_Mo_back_9
set_option maxRecDepth 20000 in
theorem k_Mo_back (l : Launch) {I : HI} {J : HJ} {N : HN} {a0 : Nat} {r : HI × Int32} (ha0 : gk Tm nM a0 (0, 11)) (h : Mo_back a0 I = some r) : gM l y_Mo_back c_Mo_back 1 (some .int) rm_Mo_back Tm nM I J N (fun ad => [.ref (ad a0)]) (r.1, J, N, fun _ => some (.int r.2)) :=
  g_meth (lv := fun ad => [(0, .ref (ad a0))]) (by decide) (fun _ => Nat.le_of_ble_eq_true rfl) (fun _ => rfl) (fun X ad C => g_lv [0] rfl (w_Mo_back_0 C ha0 h))
theorem d_Mo_element_0 : decode c_Mo_element 0 = .ok (.iload_n 1, 1) := by decide +kernel
theorem d_Mo_element_1 : decode c_Mo_element 1 = .ok (.i2l, 1) := by decide +kernel
theorem d_Mo_element_2 : decode c_Mo_element 2 = .ok (.lconst 0, 1) := by decide +kernel
theorem d_Mo_element_3 : decode c_Mo_element 3 = .ok (.aload_n 0, 1) := by decide +kernel
theorem d_Mo_element_4 : decode c_Mo_element 4 = .ok (.getfield 159, 3) := by decide +kernel
theorem d_Mo_element_7 : decode c_Mo_element 7 = .ok (.iconst 1, 1) := by decide +kernel
theorem d_Mo_element_8 : decode c_Mo_element 8 = .ok (.isub, 1) := by decide +kernel
theorem d_Mo_element_9 : decode c_Mo_element 9 = .ok (.i2l, 1) := by decide +kernel
theorem d_Mo_element_10 : decode c_Mo_element 10 = .ok (.invokestatic 83, 3) := by decide +kernel
theorem d_Mo_element_13 : decode c_Mo_element 13 = .ok (.ifCond .eq 28, 3) := by decide +kernel
theorem d_Mo_element_16 : decode c_Mo_element 16 = .ok (.iload_n 2, 1) := by decide +kernel
theorem d_Mo_element_17 : decode c_Mo_element 17 = .ok (.i2l, 1) := by decide +kernel
theorem d_Mo_element_18 : decode c_Mo_element 18 = .ok (.lconst 0, 1) := by decide +kernel
theorem d_Mo_element_19 : decode c_Mo_element 19 = .ok (.ldc2_w 139, 3) := by decide +kernel
theorem d_Mo_element_22 : decode c_Mo_element 22 = .ok (.invokestatic 83, 3) := by decide +kernel
theorem d_Mo_element_25 : decode c_Mo_element 25 = .ok (.ifCond .eq 16, 3) := by decide +kernel
theorem d_Mo_element_28 : decode c_Mo_element 28 = .ok (.aload_n 0, 1) := by decide +kernel
theorem d_Mo_element_29 : decode c_Mo_element 29 = .ok (.getfield 23, 3) := by decide +kernel
theorem d_Mo_element_32 : decode c_Mo_element 32 = .ok (.iconst 5, 1) := by decide +kernel
theorem d_Mo_element_33 : decode c_Mo_element 33 = .ok (.iload_n 1, 1) := by decide +kernel
theorem d_Mo_element_34 : decode c_Mo_element 34 = .ok (.imul, 1) := by decide +kernel
theorem d_Mo_element_35 : decode c_Mo_element 35 = .ok (.iload_n 2, 1) := by decide +kernel
theorem d_Mo_element_36 : decode c_Mo_element 36 = .ok (.iadd, 1) := by decide +kernel
theorem d_Mo_element_37 : decode c_Mo_element 37 = .ok (.iaload, 1) := by decide +kernel
theorem d_Mo_element_38 : decode c_Mo_element 38 = .ok (.goto 5, 3) := by decide +kernel
theorem d_Mo_element_41 : decode c_Mo_element 41 = .ok (.bipush (-2), 2) := by decide +kernel
theorem d_Mo_element_43 : decode c_Mo_element 43 = .ok (.ireturn, 1) := by decide +kernel
set_option maxRecDepth 20000 in
theorem w_Mo_element_0 {X : HX} {ad : Nat → Nat} {I : HI} {J : HJ} {N : HN} {r : Int32} {a0 : Nat} {p1 : Int32} {p2 : Int32} (C : Cx X c_Mo_element RX11 3 (some .int) rm_Mo_element) (ha0 : gk Tm nM a0 (0, 11))
    (h : Mo_element_0 I N a0 p1 p2 = some r) : G Tm X ad nM 0 0 I J N (gE X Tm ad nM (I, J, N, fun _ => some (.int r))) 0 3 [(0, .ref (ad a0)), (1, .int p1), (2, .int p2)] [] := by
  refine g_iload_n (pc := 0) C d_Mo_element_0 rfl 1 rfl ?_
  refine g_i2l (pc := 1) C d_Mo_element_1 ?_
  refine g_lconst (pc := 2) C (0 : Int64) d_Mo_element_2 (by decide) ?_
  refine g_aload_n (pc := 3) C d_Mo_element_3 rfl 0 rfl ?_
  refine g_get (pc := 4) (k := 6) (v := .int (I a0 6)) C gcX11 inX11 (by decide) fl_Mo_159 ha0 rfl d_Mo_element_4 ?_
  refine g_iconst (pc := 7) C (1 : Int32) d_Mo_element_7 (by decide) ?_
  refine g_isub (pc := 8) C d_Mo_element_8 ?_
  refine g_i2l (pc := 9) C d_Mo_element_9 ?_
  obtain ⟨r1, hc2, h⟩ := o_bn1 h
  refine g_S (pc := 10) (rest := []) C (k_Mo_in (xl X)  hc2) sm_Mo_in ml_Mo_83 st_Mo_in ⟨rfl, rfl, Nat.le_of_ble_eq_true rfl, Nat.le_of_ble_eq_true rfl⟩ ⟨Nat.zero_le _, Nat.zero_le _⟩ rfl rfl (Nat.le_of_ble_eq_true rfl) d_Mo_element_10 [.int r1] rfl ?_
  refine g_if_eq (pc := 13) C 41 d_Mo_element_13 rfl (fun e3 => ?_) (fun e3 => ?_)
  · have h := o_pos e3 h
    refine g_bipush (pc := 41) C (-2 : Int32) d_Mo_element_41 (by decide) ?_
    obtain rfl := o_ret h
    exact g_iret (pc := 43) C d_Mo_element_43
  · have h := o_neg e3 h
    refine g_iload_n (pc := 16) C d_Mo_element_16 rfl 2 rfl ?_
    refine g_i2l (pc := 17) C d_Mo_element_17 ?_
    refine g_lconst (pc := 18) C (0 : Int64) d_Mo_element_18 (by decide) ?_
    refine g_ldc2 (pc := 19) C kc_Mo_139 d_Mo_element_19 ?_
    obtain ⟨r4, hc5, h⟩ := o_bn1 h
    refine g_S (pc := 22) (rest := []) C (k_Mo_in (xl X)  hc5) sm_Mo_in ml_Mo_83 st_Mo_in ⟨rfl, rfl, Nat.le_of_ble_eq_true rfl, Nat.le_of_ble_eq_true rfl⟩ ⟨Nat.zero_le _, Nat.zero_le _⟩ rfl rfl (Nat.le_of_ble_eq_true rfl) d_Mo_element_22 [.int r4] rfl ?_
    refine g_if_eq (pc := 25) C 41 d_Mo_element_25 rfl (fun e6 => ?_) (fun e6 => ?_)
    · have h := o_pos e6 h
      refine g_bipush (pc := 41) C (-2 : Int32) d_Mo_element_41 (by decide) ?_
      obtain rfl := o_ret h
      exact g_iret (pc := 43) C d_Mo_element_43
    · have h := o_neg e6 h
      refine g_aload_n (pc := 28) C d_Mo_element_28 rfl 0 rfl ?_
      obtain ⟨b7, hnb7, hb7, h⟩ := o_ra h
      refine g_get (pc := 29) (k := 5) (v := va_rf ((N a0 5).map ad)) C gcX11 inX11 (by decide) fl_Mo_23 ha0 rfl d_Mo_element_29 ?_
      refine g_top (g_rf hnb7) ?_
      refine g_iconst (pc := 32) C (5 : Int32) d_Mo_element_32 (by decide) ?_
      refine g_iload_n (pc := 33) C d_Mo_element_33 rfl 1 rfl ?_
      refine g_imul (pc := 34) C d_Mo_element_34 ?_
      refine g_iload_n (pc := 35) C d_Mo_element_35 rfl 2 rfl ?_
      refine g_iadd (pc := 36) C d_Mo_element_36 ?_
      obtain ⟨hi8, h⟩ := o_gd h
      refine g_iald (pc := 37) C hb7 hi8 d_Mo_element_37 ?_
      refine g_goto (pc := 38) C 43 d_Mo_element_38 rfl ?_
      obtain rfl := o_ret h
      exact g_iret (pc := 43) C d_Mo_element_43
set_option maxRecDepth 20000 in
theorem k_Mo_element (l : Launch) {I : HI} {J : HJ} {N : HN} {a0 : Nat} {p1 : Int32} {p2 : Int32} {r : Int32} (ha0 : gk Tm nM a0 (0, 11)) (h : Mo_element I N a0 p1 p2 = some r) : gM l y_Mo_element c_Mo_element 3 (some .int) rm_Mo_element Tm nM I J N (fun ad => [.ref (ad a0), .int p1, .int p2]) (I, J, N, fun _ => some (.int r)) :=
  g_meth (lv := fun ad => [(0, .ref (ad a0)), (1, .int p1), (2, .int p2)]) (by decide) (fun _ => Nat.le_of_ble_eq_true rfl) (fun _ => rfl) (fun X ad C => g_lv [0, 1, 2] rfl (w_Mo_element_0 C ha0 h))
theorem d_Mo_takes_0 : decode c_Mo_takes 0 = .ok (.lload_n 1, 1) := by decide +kernel
theorem d_Mo_takes_1 : decode c_Mo_takes 1 = .ok (.lload_n 3, 1) := by decide +kernel
theorem d_Mo_takes_2 : decode c_Mo_takes 2 = .ok (.invokestatic 152, 3) := by decide +kernel
theorem d_Mo_takes_5 : decode c_Mo_takes 5 = .ok (.lstore 5, 2) := by decide +kernel
theorem d_Mo_takes_7 : decode c_Mo_takes 7 = .ok (.lload_n 3, 1) := by decide +kernel
theorem d_Mo_takes_8 : decode c_Mo_takes 8 = .ok (.lconst 0, 1) := by decide +kernel
theorem d_Mo_takes_9 : decode c_Mo_takes 9 = .ok (.lcmp, 1) := by decide +kernel
theorem d_Mo_takes_10 : decode c_Mo_takes 10 = .ok (.ifCond .ge 10, 3) := by decide +kernel
theorem d_Mo_takes_13 : decode c_Mo_takes 13 = .ok (.lconst 0, 1) := by decide +kernel
theorem d_Mo_takes_14 : decode c_Mo_takes 14 = .ok (.lload 5, 2) := by decide +kernel
theorem d_Mo_takes_16 : decode c_Mo_takes 16 = .ok (.lsub, 1) := by decide +kernel
theorem d_Mo_takes_17 : decode c_Mo_takes 17 = .ok (.goto 5, 3) := by decide +kernel
theorem d_Mo_takes_20 : decode c_Mo_takes 20 = .ok (.lload 5, 2) := by decide +kernel
theorem d_Mo_takes_22 : decode c_Mo_takes 22 = .ok (.lstore 5, 2) := by decide +kernel
theorem d_Mo_takes_24 : decode c_Mo_takes 24 = .ok (.aload_n 0, 1) := by decide +kernel
theorem d_Mo_takes_25 : decode c_Mo_takes 25 = .ok (.lload_n 1, 1) := by decide +kernel
theorem d_Mo_takes_26 : decode c_Mo_takes 26 = .ok (.lload 5, 2) := by decide +kernel
theorem d_Mo_takes_28 : decode c_Mo_takes 28 = .ok (.ldiv, 1) := by decide +kernel
theorem d_Mo_takes_29 : decode c_Mo_takes 29 = .ok (.putfield 166, 3) := by decide +kernel
theorem d_Mo_takes_32 : decode c_Mo_takes 32 = .ok (.aload_n 0, 1) := by decide +kernel
theorem d_Mo_takes_33 : decode c_Mo_takes 33 = .ok (.lload_n 3, 1) := by decide +kernel
theorem d_Mo_takes_34 : decode c_Mo_takes 34 = .ok (.lload 5, 2) := by decide +kernel
theorem d_Mo_takes_36 : decode c_Mo_takes 36 = .ok (.ldiv, 1) := by decide +kernel
theorem d_Mo_takes_37 : decode c_Mo_takes 37 = .ok (.putfield 170, 3) := by decide +kernel
theorem d_Mo_takes_40 : decode c_Mo_takes 40 = .ok (.return_, 1) := by decide +kernel
set_option maxRecDepth 20000 in
theorem w_Mo_takes_22 {X : HX} {ad : Nat → Nat} {I : HI} {J : HJ} {N : HN} {r : HJ} {a0 : Nat} {p1 : Int64} {p3 : Int64} {s0 : Int64} (C : Cx X c_Mo_takes RX11 7 none rm_Mo_takes) (ha0 : gk Tm nM a0 (0, 11))
    (h : Mo_takes_22 a0 p1 p3 J s0 = some r) : G Tm X ad nM 0 0 I J N (gE X Tm ad nM (I, r, N, fun _ => none)) 22 7 [(0, .ref (ad a0)), (1, .long p1), (3, .long p3)] [.long s0] := by
  refine g_lstore (pc := 22) (lv' := [(5, .long s0), (0, .ref (ad a0)), (1, .long p1), (3, .long p3)]) C d_Mo_takes_22 (by decide) rfl ?_
  refine g_aload_n (pc := 24) C d_Mo_takes_24 rfl 1 rfl ?_
  refine g_lload_n (pc := 25) C d_Mo_takes_25 rfl 2 rfl ?_
  refine g_lload (pc := 26) C d_Mo_takes_26 0 rfl ?_
  obtain ⟨hz1, h⟩ := o_gd h
  refine g_ldiv (pc := 28) C d_Mo_takes_28 (of_decide_eq_true hz1) ?_
  refine g_put (pc := 29) (I' := I) (J' := up2 J a0 9 (p1 / s0)) (N' := N) (k := 9) C gcX11 inX11 tyX11_ok nmX11 (by decide) fl_Mo_166 rfl ha0 (tyX11_ok 9 (by decide)) rfl rfl (Nat.le_of_ble_eq_true rfl) gs_11_9 (fun _ _ => rfl) (fun b hb => up2_of hb) (fun _ _ => rfl) d_Mo_takes_29 ?_
  obtain ⟨J2, eJ2, h⟩ := o_bd h
  rw [← eJ2]
  refine g_aload_n (pc := 32) C d_Mo_takes_32 rfl 1 rfl ?_
  refine g_lload_n (pc := 33) C d_Mo_takes_33 rfl 3 rfl ?_
  refine g_lload (pc := 34) C d_Mo_takes_34 0 rfl ?_
  obtain ⟨hz3, h⟩ := o_gd h
  refine g_ldiv (pc := 36) C d_Mo_takes_36 (of_decide_eq_true hz3) ?_
  refine g_put (pc := 37) (I' := I) (J' := up2 J2 a0 10 (p3 / s0)) (N' := N) (k := 10) C gcX11 inX11 tyX11_ok nmX11 (by decide) fl_Mo_170 rfl ha0 (tyX11_ok 10 (by decide)) rfl rfl (Nat.le_of_ble_eq_true rfl) gs_11_10 (fun _ _ => rfl) (fun b hb => up2_of hb) (fun _ _ => rfl) d_Mo_takes_37 ?_
  obtain ⟨J4, eJ4, h⟩ := o_bd h
  rw [← eJ4]
  obtain rfl := o_ret h
  exact g_vret (pc := 40) C d_Mo_takes_40
set_option maxRecDepth 20000 in
theorem w_Mo_takes_0 {X : HX} {ad : Nat → Nat} {I : HI} {J : HJ} {N : HN} {r : HJ} {a0 : Nat} {p1 : Int64} {p3 : Int64} (C : Cx X c_Mo_takes RX11 7 none rm_Mo_takes) (ha0 : gk Tm nM a0 (0, 11))
    (h : Mo_takes_0 a0 p1 p3 J = some r) : G Tm X ad nM 0 0 I J N (gE X Tm ad nM (I, r, N, fun _ => none)) 0 7 [(0, .ref (ad a0)), (1, .long p1), (3, .long p3)] [] := by
  refine g_lload_n (pc := 0) C d_Mo_takes_0 rfl 1 rfl ?_
  refine g_lload_n (pc := 1) C d_Mo_takes_1 rfl 2 rfl ?_
  obtain ⟨r1, hc2, h⟩ := o_bn1 h
  refine g_S (pc := 2) (rest := []) C (k_Mo_divisor (xl X)  hc2) sm_Mo_divisor ml_Mo_152 st_Mo_divisor ⟨rfl, rfl, Nat.le_of_ble_eq_true rfl, Nat.le_of_ble_eq_true rfl⟩ ⟨Nat.zero_le _, Nat.zero_le _⟩ rfl rfl (Nat.le_of_ble_eq_true rfl) d_Mo_takes_2 [.long r1] rfl ?_
  refine g_lstore (pc := 5) (lv' := [(5, .long r1), (0, .ref (ad a0)), (1, .long p1), (3, .long p3)]) C d_Mo_takes_5 (by decide) rfl ?_
  refine g_lload_n (pc := 7) C d_Mo_takes_7 rfl 3 rfl ?_
  refine g_lconst (pc := 8) C (0 : Int64) d_Mo_takes_8 (by decide) ?_
  refine g_lcmp_ge (pc := 9) C 20 d_Mo_takes_9 d_Mo_takes_10 rfl (fun e3 => ?_) (fun e3 => ?_)
  · have h := o_pos e3 h
    refine g_lload (pc := 20) C d_Mo_takes_20 0 rfl ?_
    refine g_lv [1, 2, 3] rfl ?_
    exact w_Mo_takes_22 C ha0 h
  · have h := o_neg e3 h
    refine g_lconst (pc := 13) C (0 : Int64) d_Mo_takes_13 (by decide) ?_
    refine g_lload (pc := 14) C d_Mo_takes_14 0 rfl ?_
    refine g_lsub (pc := 16) C d_Mo_takes_16 ?_
    refine g_goto (pc := 17) C 22 d_Mo_takes_17 rfl ?_
    refine g_lv [1, 2, 3] rfl ?_
    exact w_Mo_takes_22 C ha0 h
set_option maxRecDepth 20000 in
theorem k_Mo_takes (l : Launch) {I : HI} {J : HJ} {N : HN} {a0 : Nat} {p1 : Int64} {p3 : Int64} {r : HJ} (ha0 : gk Tm nM a0 (0, 11)) (h : Mo_takes a0 p1 p3 J = some r) : gM l y_Mo_takes c_Mo_takes 7 none rm_Mo_takes Tm nM I J N (fun ad => [.ref (ad a0), .long p1, .long p3]) (I, r, N, fun _ => none) :=
  g_meth (lv := fun ad => [(0, .ref (ad a0)), (1, .long p1), (3, .long p3)]) (by decide) (fun _ => Nat.le_of_ble_eq_true rfl) (fun _ => rfl) (fun X ad C => g_lv [0, 1, 2] rfl (w_Mo_takes_0 C ha0 h))
theorem d_Mo_isHandy_0 : decode c_Mo_isHandy 0 = .ok (.aload_n 0, 1) := by decide +kernel
theorem d_Mo_isHandy_1 : decode c_Mo_isHandy 1 = .ok (.getfield 166, 3) := by decide +kernel
theorem d_Mo_isHandy_4 : decode c_Mo_isHandy 4 = .ok (.ldc2_w 173, 3) := by decide +kernel
theorem d_Mo_isHandy_7 : decode c_Mo_isHandy 7 = .ok (.lcmp, 1) := by decide +kernel
theorem d_Mo_isHandy_8 : decode c_Mo_isHandy 8 = .ok (.ifCond .gt 18, 3) := by decide +kernel
theorem d_Mo_isHandy_11 : decode c_Mo_isHandy 11 = .ok (.aload_n 0, 1) := by decide +kernel
theorem d_Mo_isHandy_12 : decode c_Mo_isHandy 12 = .ok (.getfield 170, 3) := by decide +kernel
theorem d_Mo_isHandy_15 : decode c_Mo_isHandy 15 = .ok (.ldc2_w 173, 3) := by decide +kernel
theorem d_Mo_isHandy_18 : decode c_Mo_isHandy 18 = .ok (.lcmp, 1) := by decide +kernel
theorem d_Mo_isHandy_19 : decode c_Mo_isHandy 19 = .ok (.ifCond .gt 7, 3) := by decide +kernel
theorem d_Mo_isHandy_22 : decode c_Mo_isHandy 22 = .ok (.iconst 1, 1) := by decide +kernel
theorem d_Mo_isHandy_23 : decode c_Mo_isHandy 23 = .ok (.goto 4, 3) := by decide +kernel
theorem d_Mo_isHandy_26 : decode c_Mo_isHandy 26 = .ok (.iconst 0, 1) := by decide +kernel
theorem d_Mo_isHandy_27 : decode c_Mo_isHandy 27 = .ok (.ireturn, 1) := by decide +kernel
set_option maxRecDepth 20000 in
theorem w_Mo_isHandy_0 {X : HX} {ad : Nat → Nat} {I : HI} {J : HJ} {N : HN} {r : Int32} {a0 : Nat} (C : Cx X c_Mo_isHandy RX11 1 (some .boolean) rm_Mo_isHandy) (ha0 : gk Tm nM a0 (0, 11))
    (h : Mo_isHandy_0 J a0 = some r) : G Tm X ad nM 0 0 I J N (gE X Tm ad nM (I, J, N, fun _ => some (.int r))) 0 1 [(0, .ref (ad a0))] [] := by
  refine g_aload_n (pc := 0) C d_Mo_isHandy_0 rfl 0 rfl ?_
  refine g_get (pc := 1) (k := 9) (v := .long (J a0 9)) C gcX11 inX11 (by decide) fl_Mo_166 ha0 rfl d_Mo_isHandy_1 ?_
  refine g_ldc2 (pc := 4) C kc_Mo_173 d_Mo_isHandy_4 ?_
  refine g_lcmp_gt (pc := 7) C 26 d_Mo_isHandy_7 d_Mo_isHandy_8 rfl (fun e1 => ?_) (fun e1 => ?_)
  · have h := o_pos e1 h
    refine g_iconst (pc := 26) C (0 : Int32) d_Mo_isHandy_26 (by decide) ?_
    obtain rfl := o_ret h
    exact g_zret (pc := 27) C zn_0 d_Mo_isHandy_27
  · have h := o_neg e1 h
    refine g_aload_n (pc := 11) C d_Mo_isHandy_11 rfl 0 rfl ?_
    refine g_get (pc := 12) (k := 10) (v := .long (J a0 10)) C gcX11 inX11 (by decide) fl_Mo_170 ha0 rfl d_Mo_isHandy_12 ?_
    refine g_ldc2 (pc := 15) C kc_Mo_173 d_Mo_isHandy_15 ?_
    refine g_lcmp_gt (pc := 18) C 26 d_Mo_isHandy_18 d_Mo_isHandy_19 rfl (fun e2 => ?_) (fun e2 => ?_)
    · have h := o_pos e2 h
      refine g_iconst (pc := 26) C (0 : Int32) d_Mo_isHandy_26 (by decide) ?_
      obtain rfl := o_ret h
      exact g_zret (pc := 27) C zn_0 d_Mo_isHandy_27
    · have h := o_neg e2 h
      refine g_iconst (pc := 22) C (1 : Int32) d_Mo_isHandy_22 (by decide) ?_
      refine g_goto (pc := 23) C 27 d_Mo_isHandy_23 rfl ?_
      obtain rfl := o_ret h
      exact g_zret (pc := 27) C zn_1 d_Mo_isHandy_27
set_option maxRecDepth 20000 in
theorem k_Mo_isHandy (l : Launch) {I : HI} {J : HJ} {N : HN} {a0 : Nat} {r : Int32} (ha0 : gk Tm nM a0 (0, 11)) (h : Mo_isHandy J a0 = some r) : gM l y_Mo_isHandy c_Mo_isHandy 1 (some .boolean) rm_Mo_isHandy Tm nM I J N (fun ad => [.ref (ad a0)]) (I, J, N, fun _ => some (.int r)) :=
  g_meth (lv := fun ad => [(0, .ref (ad a0))]) (by decide) (fun _ => Nat.le_of_ble_eq_true rfl) (fun _ => rfl) (fun X ad C => g_lv [0] rfl (w_Mo_isHandy_0 C ha0 h))
theorem d_Mo_makes_0 : decode c_Mo_makes 0 = .ok (.aload_n 0, 1) := by decide +kernel
theorem d_Mo_makes_1 : decode c_Mo_makes 1 = .ok (.getfield 26, 3) := by decide +kernel
theorem d_Mo_makes_4 : decode c_Mo_makes 4 = .ok (.iconst 5, 1) := by decide +kernel
theorem d_Mo_makes_5 : decode c_Mo_makes 5 = .ok (.aload_n 0, 1) := by decide +kernel
theorem d_Mo_makes_6 : decode c_Mo_makes 6 = .ok (.getfield 175, 3) := by decide +kernel
theorem d_Mo_makes_9 : decode c_Mo_makes 9 = .ok (.imul, 1) := by decide +kernel
theorem d_Mo_makes_10 : decode c_Mo_makes 10 = .ok (.iload_n 1, 1) := by decide +kernel
theorem d_Mo_makes_11 : decode c_Mo_makes 11 = .ok (.iastore, 1) := by decide +kernel
theorem d_Mo_makes_12 : decode c_Mo_makes 12 = .ok (.iconst 1, 1) := by decide +kernel
theorem d_Mo_makes_13 : decode c_Mo_makes 13 = .ok (.istore_n 2, 1) := by decide +kernel
theorem d_Mo_makes_14 : decode c_Mo_makes 14 = .ok (.iload_n 2, 1) := by decide +kernel
theorem d_Mo_makes_15 : decode c_Mo_makes 15 = .ok (.iconst 5, 1) := by decide +kernel
theorem d_Mo_makes_16 : decode c_Mo_makes 16 = .ok (.if_icmp .ge 23, 3) := by decide +kernel
theorem d_Mo_makes_19 : decode c_Mo_makes 19 = .ok (.aload_n 0, 1) := by decide +kernel
theorem d_Mo_makes_20 : decode c_Mo_makes 20 = .ok (.getfield 26, 3) := by decide +kernel
theorem d_Mo_makes_23 : decode c_Mo_makes 23 = .ok (.iconst 5, 1) := by decide +kernel
theorem d_Mo_makes_24 : decode c_Mo_makes 24 = .ok (.aload_n 0, 1) := by decide +kernel
theorem d_Mo_makes_25 : decode c_Mo_makes 25 = .ok (.getfield 175, 3) := by decide +kernel
theorem d_Mo_makes_28 : decode c_Mo_makes 28 = .ok (.imul, 1) := by decide +kernel
theorem d_Mo_makes_29 : decode c_Mo_makes 29 = .ok (.iload_n 2, 1) := by decide +kernel
theorem d_Mo_makes_30 : decode c_Mo_makes 30 = .ok (.iadd, 1) := by decide +kernel
theorem d_Mo_makes_31 : decode c_Mo_makes 31 = .ok (.iconst 0, 1) := by decide +kernel
theorem d_Mo_makes_32 : decode c_Mo_makes 32 = .ok (.iastore, 1) := by decide +kernel
theorem d_Mo_makes_33 : decode c_Mo_makes 33 = .ok (.iinc 2 1, 3) := by decide +kernel
theorem d_Mo_makes_36 : decode c_Mo_makes 36 = .ok (.goto (-22), 3) := by decide +kernel
theorem d_Mo_makes_39 : decode c_Mo_makes 39 = .ok (.return_, 1) := by decide +kernel
set_option maxRecDepth 20000 in
theorem w_Mo_makes_14b {X : HX} {ad : Nat → Nat} {I : HI} {J : HJ} {N : HN} {r : HI} {k14 : HI → Int32 → Option (HI)} {a0 : Nat} {p1 : Int32} {x2 : Int32} (C : Cx X c_Mo_makes RX11 3 none rm_Mo_makes) (ha0 : gk Tm nM a0 (0, 11))
    (hk14 : ∀ (I : HI) (x2 : Int32), k14 I x2 = some r → G Tm X ad nM 0 0 I J N (gE X Tm ad nM (r, J, N, fun _ => none)) 14 3 [(0, .ref (ad a0)), (2, .int x2)] [])
    (h : Mo_makes_14b N a0 p1 k14 I x2 = some r) : G Tm X ad nM 0 0 I J N (gE X Tm ad nM (r, J, N, fun _ => none)) 14 3 [(0, .ref (ad a0)), (2, .int x2)] [] := by
  refine g_iload_n (pc := 14) C d_Mo_makes_14 rfl 1 rfl ?_
  refine g_iconst (pc := 15) C (5 : Int32) d_Mo_makes_15 (by decide) ?_
  refine g_icmp_ge (pc := 16) C 39 d_Mo_makes_16 rfl (fun e1 => ?_) (fun e1 => ?_)
  · have h := o_pos e1 h
    obtain rfl := o_ret h
    exact g_vret (pc := 39) C d_Mo_makes_39
  · have h := o_neg e1 h
    refine g_aload_n (pc := 19) C d_Mo_makes_19 rfl 0 rfl ?_
    obtain ⟨b2, hnb2, hb2, h⟩ := o_ra h
    refine g_get (pc := 20) (k := 7) (v := va_rf ((N a0 7).map ad)) C gcX11 inX11 (by decide) fl_Mo_26 ha0 rfl d_Mo_makes_20 ?_
    refine g_top (g_rf hnb2) ?_
    refine g_iconst (pc := 23) C (5 : Int32) d_Mo_makes_23 (by decide) ?_
    refine g_aload_n (pc := 24) C d_Mo_makes_24 rfl 0 rfl ?_
    refine g_get (pc := 25) (k := 8) (v := .int (I a0 8)) C gcX11 inX11 (by decide) fl_Mo_175 ha0 rfl d_Mo_makes_25 ?_
    refine g_imul (pc := 28) C d_Mo_makes_28 ?_
    refine g_iload_n (pc := 29) C d_Mo_makes_29 rfl 1 rfl ?_
    refine g_iadd (pc := 30) C d_Mo_makes_30 ?_
    refine g_iconst (pc := 31) C (0 : Int32) d_Mo_makes_31 (by decide) ?_
    obtain ⟨hi3, h⟩ := o_gd h
    refine g_iast (pc := 32) C hb2 hi3 d_Mo_makes_32 ?_
    obtain ⟨I4, eI4, h⟩ := o_bd h
    rw [← eI4]
    refine g_iinc (pc := 33) (q := 1) (lv' := [(2, .int (x2 + 1)), (0, .ref (ad a0))]) C d_Mo_makes_33 rfl rfl (by decide) rfl ?_
    refine g_goto (pc := 36) C 14 d_Mo_makes_36 rfl ?_
    refine g_lv [1, 0] rfl ?_
    exact hk14 _ _ h
set_option maxRecDepth 20000 in
theorem w_Mo_makes_14 {X : HX} {ad : Nat → Nat} {J : HJ} {N : HN} {r : HI} {a0 : Nat} {p1 : Int32} (C : Cx X c_Mo_makes RX11 3 none rm_Mo_makes) (ha0 : gk Tm nM a0 (0, 11)) : ∀ (n : Nat) (I : HI) (x2 : Int32), Mo_makes_14 N a0 p1 n I x2 = some r → G Tm X ad nM 0 0 I J N (gE X Tm ad nM (r, J, N, fun _ => none)) 14 3 [(0, .ref (ad a0)), (2, .int x2)] [] := by
  intro n
  induction n with
  | zero => intro I x2 h; cases h
  | succ n ih => intro I x2 h; exact w_Mo_makes_14b C ha0 ih h
set_option maxRecDepth 20000 in
theorem w_Mo_makes_0 {X : HX} {ad : Nat → Nat} {I : HI} {J : HJ} {N : HN} {r : HI} {a0 : Nat} {p1 : Int32} (C : Cx X c_Mo_makes RX11 3 none rm_Mo_makes) (ha0 : gk Tm nM a0 (0, 11))
    (h : Mo_makes_0 N a0 p1 I = some r) : G Tm X ad nM 0 0 I J N (gE X Tm ad nM (r, J, N, fun _ => none)) 0 3 [(0, .ref (ad a0)), (1, .int p1)] [] := by
  refine g_aload_n (pc := 0) C d_Mo_makes_0 rfl 0 rfl ?_
  obtain ⟨b1, hnb1, hb1, h⟩ := o_ra h
  refine g_get (pc := 1) (k := 7) (v := va_rf ((N a0 7).map ad)) C gcX11 inX11 (by decide) fl_Mo_26 ha0 rfl d_Mo_makes_1 ?_
  refine g_top (g_rf hnb1) ?_
  refine g_iconst (pc := 4) C (5 : Int32) d_Mo_makes_4 (by decide) ?_
  refine g_aload_n (pc := 5) C d_Mo_makes_5 rfl 0 rfl ?_
  refine g_get (pc := 6) (k := 8) (v := .int (I a0 8)) C gcX11 inX11 (by decide) fl_Mo_175 ha0 rfl d_Mo_makes_6 ?_
  refine g_imul (pc := 9) C d_Mo_makes_9 ?_
  refine g_iload_n (pc := 10) C d_Mo_makes_10 rfl 1 rfl ?_
  obtain ⟨hi2, h⟩ := o_gd h
  refine g_iast (pc := 11) C hb1 hi2 d_Mo_makes_11 ?_
  obtain ⟨I3, eI3, h⟩ := o_bd h
  rw [← eI3]
  refine g_iconst (pc := 12) C (1 : Int32) d_Mo_makes_12 (by decide) ?_
  refine g_istore_n (pc := 13) (lv' := [(2, .int (1 : Int32)), (0, .ref (ad a0)), (1, .int p1)]) C d_Mo_makes_13 rfl (by decide) rfl ?_
  refine g_lv [1, 0] rfl ?_
  exact w_Mo_makes_14 C ha0 _ _ _ h
set_option maxRecDepth 20000 in
theorem k_Mo_makes (l : Launch) {I : HI} {J : HJ} {N : HN} {a0 : Nat} {p1 : Int32} {r : HI} (ha0 : gk Tm nM a0 (0, 11)) (h : Mo_makes N a0 p1 I = some r) : gM l y_Mo_makes c_Mo_makes 3 none rm_Mo_makes Tm nM I J N (fun ad => [.ref (ad a0), .int p1]) (r, J, N, fun _ => none) :=
  g_meth (lv := fun ad => [(0, .ref (ad a0)), (1, .int p1)]) (by decide) (fun _ => Nat.le_of_ble_eq_true rfl) (fun _ => rfl) (fun X ad C => g_lv [0, 1] rfl (w_Mo_makes_0 C ha0 h))
theorem d_Mo_lays_0 : decode c_Mo_lays 0 = .ok (.aload_n 0, 1) := by decide +kernel
theorem d_Mo_lays_1 : decode c_Mo_lays 1 = .ok (.getfield 26, 3) := by decide +kernel
theorem d_Mo_lays_4 : decode c_Mo_lays 4 = .ok (.iconst 5, 1) := by decide +kernel
theorem d_Mo_lays_5 : decode c_Mo_lays 5 = .ok (.aload_n 0, 1) := by decide +kernel
theorem d_Mo_lays_6 : decode c_Mo_lays 6 = .ok (.getfield 175, 3) := by decide +kernel
theorem d_Mo_lays_9 : decode c_Mo_lays 9 = .ok (.imul, 1) := by decide +kernel
theorem d_Mo_lays_10 : decode c_Mo_lays 10 = .ok (.iload_n 1, 1) := by decide +kernel
theorem d_Mo_lays_11 : decode c_Mo_lays 11 = .ok (.iadd, 1) := by decide +kernel
theorem d_Mo_lays_12 : decode c_Mo_lays 12 = .ok (.aload_n 0, 1) := by decide +kernel
theorem d_Mo_lays_13 : decode c_Mo_lays 13 = .ok (.getfield 166, 3) := by decide +kernel
theorem d_Mo_lays_16 : decode c_Mo_lays 16 = .ok (.l2i, 1) := by decide +kernel
theorem d_Mo_lays_17 : decode c_Mo_lays 17 = .ok (.iastore, 1) := by decide +kernel
theorem d_Mo_lays_18 : decode c_Mo_lays 18 = .ok (.aload_n 0, 1) := by decide +kernel
theorem d_Mo_lays_19 : decode c_Mo_lays 19 = .ok (.getfield 26, 3) := by decide +kernel
theorem d_Mo_lays_22 : decode c_Mo_lays 22 = .ok (.iconst 5, 1) := by decide +kernel
theorem d_Mo_lays_23 : decode c_Mo_lays 23 = .ok (.aload_n 0, 1) := by decide +kernel
theorem d_Mo_lays_24 : decode c_Mo_lays 24 = .ok (.getfield 175, 3) := by decide +kernel
theorem d_Mo_lays_27 : decode c_Mo_lays 27 = .ok (.imul, 1) := by decide +kernel
theorem d_Mo_lays_28 : decode c_Mo_lays 28 = .ok (.iload_n 1, 1) := by decide +kernel
theorem d_Mo_lays_29 : decode c_Mo_lays 29 = .ok (.iadd, 1) := by decide +kernel
theorem d_Mo_lays_30 : decode c_Mo_lays 30 = .ok (.iconst 1, 1) := by decide +kernel
theorem d_Mo_lays_31 : decode c_Mo_lays 31 = .ok (.iadd, 1) := by decide +kernel
theorem d_Mo_lays_32 : decode c_Mo_lays 32 = .ok (.aload_n 0, 1) := by decide +kernel
theorem d_Mo_lays_33 : decode c_Mo_lays 33 = .ok (.getfield 170, 3) := by decide +kernel
theorem d_Mo_lays_36 : decode c_Mo_lays 36 = .ok (.l2i, 1) := by decide +kernel
theorem d_Mo_lays_37 : decode c_Mo_lays 37 = .ok (.iastore, 1) := by decide +kernel
theorem d_Mo_lays_38 : decode c_Mo_lays 38 = .ok (.return_, 1) := by decide +kernel
set_option maxRecDepth 20000 in
theorem w_Mo_lays_0 {X : HX} {ad : Nat → Nat} {I : HI} {J : HJ} {N : HN} {r : HI} {a0 : Nat} {p1 : Int32} (C : Cx X c_Mo_lays RX11 2 none rm_Mo_lays) (ha0 : gk Tm nM a0 (0, 11))
    (h : Mo_lays_0 J N a0 p1 I = some r) : G Tm X ad nM 0 0 I J N (gE X Tm ad nM (r, J, N, fun _ => none)) 0 2 [(0, .ref (ad a0)), (1, .int p1)] [] := by
  refine g_aload_n (pc := 0) C d_Mo_lays_0 rfl 0 rfl ?_
  obtain ⟨b1, hnb1, hb1, h⟩ := o_ra h
  refine g_get (pc := 1) (k := 7) (v := va_rf ((N a0 7).map ad)) C gcX11 inX11 (by decide) fl_Mo_26 ha0 rfl d_Mo_lays_1 ?_
  refine g_top (g_rf hnb1) ?_
  refine g_iconst (pc := 4) C (5 : Int32) d_Mo_lays_4 (by decide) ?_
  refine g_aload_n (pc := 5) C d_Mo_lays_5 rfl 0 rfl ?_
  refine g_get (pc := 6) (k := 8) (v := .int (I a0 8)) C gcX11 inX11 (by decide) fl_Mo_175 ha0 rfl d_Mo_lays_6 ?_
  refine g_imul (pc := 9) C d_Mo_lays_9 ?_
  refine g_iload_n (pc := 10) C d_Mo_lays_10 rfl 1 rfl ?_
  refine g_iadd (pc := 11) C d_Mo_lays_11 ?_
  refine g_aload_n (pc := 12) C d_Mo_lays_12 rfl 0 rfl ?_
  refine g_get (pc := 13) (k := 9) (v := .long (J a0 9)) C gcX11 inX11 (by decide) fl_Mo_166 ha0 rfl d_Mo_lays_13 ?_
  refine g_l2i (pc := 16) C d_Mo_lays_16 ?_
  obtain ⟨hi2, h⟩ := o_gd h
  refine g_iast (pc := 17) C hb1 hi2 d_Mo_lays_17 ?_
  obtain ⟨I3, eI3, h⟩ := o_bd h
  rw [← eI3]
  refine g_aload_n (pc := 18) C d_Mo_lays_18 rfl 0 rfl ?_
  obtain ⟨b4, hnb4, hb4, h⟩ := o_ra h
  refine g_get (pc := 19) (k := 7) (v := va_rf ((N a0 7).map ad)) C gcX11 inX11 (by decide) fl_Mo_26 ha0 rfl d_Mo_lays_19 ?_
  refine g_top (g_rf hnb4) ?_
  refine g_iconst (pc := 22) C (5 : Int32) d_Mo_lays_22 (by decide) ?_
  refine g_aload_n (pc := 23) C d_Mo_lays_23 rfl 0 rfl ?_
  refine g_get (pc := 24) (k := 8) (v := .int (I3 a0 8)) C gcX11 inX11 (by decide) fl_Mo_175 ha0 rfl d_Mo_lays_24 ?_
  refine g_imul (pc := 27) C d_Mo_lays_27 ?_
  refine g_iload_n (pc := 28) C d_Mo_lays_28 rfl 1 rfl ?_
  refine g_iadd (pc := 29) C d_Mo_lays_29 ?_
  refine g_iconst (pc := 30) C (1 : Int32) d_Mo_lays_30 (by decide) ?_
  refine g_iadd (pc := 31) C d_Mo_lays_31 ?_
  refine g_aload_n (pc := 32) C d_Mo_lays_32 rfl 0 rfl ?_
  refine g_get (pc := 33) (k := 10) (v := .long (J a0 10)) C gcX11 inX11 (by decide) fl_Mo_170 ha0 rfl d_Mo_lays_33 ?_
  refine g_l2i (pc := 36) C d_Mo_lays_36 ?_
  obtain ⟨hi5, h⟩ := o_gd h
  refine g_iast (pc := 37) C hb4 hi5 d_Mo_lays_37 ?_
  obtain ⟨I6, eI6, h⟩ := o_bd h
  rw [← eI6]
  obtain rfl := o_ret h
  exact g_vret (pc := 38) C d_Mo_lays_38
set_option maxRecDepth 20000 in
theorem k_Mo_lays (l : Launch) {I : HI} {J : HJ} {N : HN} {a0 : Nat} {p1 : Int32} {r : HI} (ha0 : gk Tm nM a0 (0, 11)) (h : Mo_lays J N a0 p1 I = some r) : gM l y_Mo_lays c_Mo_lays 2 none rm_Mo_lays Tm nM I J N (fun ad => [.ref (ad a0), .int p1]) (r, J, N, fun _ => none) :=
  g_meth (lv := fun ad => [(0, .ref (ad a0)), (1, .int p1)]) (by decide) (fun _ => Nat.le_of_ble_eq_true rfl) (fun _ => rfl) (fun X ad C => g_lv [0, 1] rfl (w_Mo_lays_0 C ha0 h))
theorem d_Mo_top_0 : decode c_Mo_top 0 = .ok (.iconst (-1), 1) := by decide +kernel
theorem d_Mo_top_1 : decode c_Mo_top 1 = .ok (.istore_n 1, 1) := by decide +kernel
theorem d_Mo_top_2 : decode c_Mo_top 2 = .ok (.iconst 0, 1) := by decide +kernel
theorem d_Mo_top_3 : decode c_Mo_top 3 = .ok (.istore_n 2, 1) := by decide +kernel
theorem d_Mo_top_4 : decode c_Mo_top 4 = .ok (.iload_n 2, 1) := by decide +kernel
theorem d_Mo_top_5 : decode c_Mo_top 5 = .ok (.bipush 7, 2) := by decide +kernel
theorem d_Mo_top_7 : decode c_Mo_top 7 = .ok (.if_icmp .ge 23, 3) := by decide +kernel
theorem d_Mo_top_10 : decode c_Mo_top 10 = .ok (.aload_n 0, 1) := by decide +kernel
theorem d_Mo_top_11 : decode c_Mo_top 11 = .ok (.iload_n 2, 1) := by decide +kernel
theorem d_Mo_top_12 : decode c_Mo_top 12 = .ok (.laload, 1) := by decide +kernel
theorem d_Mo_top_13 : decode c_Mo_top 13 = .ok (.lconst 0, 1) := by decide +kernel
theorem d_Mo_top_14 : decode c_Mo_top 14 = .ok (.lcmp, 1) := by decide +kernel
theorem d_Mo_top_15 : decode c_Mo_top 15 = .ok (.ifCond .eq 7, 3) := by decide +kernel
theorem d_Mo_top_18 : decode c_Mo_top 18 = .ok (.iload_n 2, 1) := by decide +kernel
theorem d_Mo_top_19 : decode c_Mo_top 19 = .ok (.goto 4, 3) := by decide +kernel
theorem d_Mo_top_22 : decode c_Mo_top 22 = .ok (.iload_n 1, 1) := by decide +kernel
theorem d_Mo_top_23 : decode c_Mo_top 23 = .ok (.istore_n 1, 1) := by decide +kernel
theorem d_Mo_top_24 : decode c_Mo_top 24 = .ok (.iinc 2 1, 3) := by decide +kernel
theorem d_Mo_top_27 : decode c_Mo_top 27 = .ok (.goto (-23), 3) := by decide +kernel
theorem d_Mo_top_30 : decode c_Mo_top 30 = .ok (.iload_n 1, 1) := by decide +kernel
theorem d_Mo_top_31 : decode c_Mo_top 31 = .ok (.ireturn, 1) := by decide +kernel
set_option maxRecDepth 20000 in
theorem w_Mo_top_23 {X : HX} {ad : Nat → Nat} {I : HI} {J : HJ} {N : HN} {r : Int32} {k4 : Int32 → Int32 → Option (Int32)} {a0 : Nat} {x2 : Int32} {s0 : Int32} (C : Cx X c_Mo_top RX11 3 (some .int) rm_Mo_top) (ha0 : ga Tm nM a0 2)
    (hk4 : ∀ (x1 : Int32) (x2 : Int32), k4 x1 x2 = some r → G Tm X ad nM 0 0 I J N (gE X Tm ad nM (I, J, N, fun _ => some (.int r))) 4 3 [(0, .ref (ad a0)), (1, .int x1), (2, .int x2)] [])
    (h : Mo_top_23 J a0 k4 x2 s0 = some r) : G Tm X ad nM 0 0 I J N (gE X Tm ad nM (I, J, N, fun _ => some (.int r))) 23 3 [(0, .ref (ad a0)), (2, .int x2)] [.int s0] := by
  refine g_istore_n (pc := 23) (lv' := [(1, .int s0), (0, .ref (ad a0)), (2, .int x2)]) C d_Mo_top_23 rfl (by decide) rfl ?_
  refine g_iinc (pc := 24) (q := 2) (lv' := [(2, .int (x2 + 1)), (1, .int s0), (0, .ref (ad a0))]) C d_Mo_top_24 rfl rfl (by decide) rfl ?_
  refine g_goto (pc := 27) C 4 d_Mo_top_27 rfl ?_
  refine g_lv [2, 1, 0] rfl ?_
  exact hk4 _ _ h
set_option maxRecDepth 20000 in
theorem w_Mo_top_4b {X : HX} {ad : Nat → Nat} {I : HI} {J : HJ} {N : HN} {r : Int32} {k4 : Int32 → Int32 → Option (Int32)} {a0 : Nat} {x1 : Int32} {x2 : Int32} (C : Cx X c_Mo_top RX11 3 (some .int) rm_Mo_top) (ha0 : ga Tm nM a0 2)
    (hk4 : ∀ (x1 : Int32) (x2 : Int32), k4 x1 x2 = some r → G Tm X ad nM 0 0 I J N (gE X Tm ad nM (I, J, N, fun _ => some (.int r))) 4 3 [(0, .ref (ad a0)), (1, .int x1), (2, .int x2)] [])
    (h : Mo_top_4b J a0 k4 x1 x2 = some r) : G Tm X ad nM 0 0 I J N (gE X Tm ad nM (I, J, N, fun _ => some (.int r))) 4 3 [(0, .ref (ad a0)), (1, .int x1), (2, .int x2)] [] := by
  refine g_iload_n (pc := 4) C d_Mo_top_4 rfl 2 rfl ?_
  refine g_bipush (pc := 5) C (7 : Int32) d_Mo_top_5 (by decide) ?_
  refine g_icmp_ge (pc := 7) C 30 d_Mo_top_7 rfl (fun e1 => ?_) (fun e1 => ?_)
  · have h := o_pos e1 h
    refine g_iload_n (pc := 30) C d_Mo_top_30 rfl 1 rfl ?_
    obtain rfl := o_ret h
    exact g_iret (pc := 31) C d_Mo_top_31
  · have h := o_neg e1 h
    refine g_aload_n (pc := 10) C d_Mo_top_10 rfl 0 rfl ?_
    refine g_iload_n (pc := 11) C d_Mo_top_11 rfl 2 rfl ?_
    obtain ⟨hi2, h⟩ := o_gd h
    refine g_lald (pc := 12) C ha0 hi2 d_Mo_top_12 ?_
    refine g_lconst (pc := 13) C (0 : Int64) d_Mo_top_13 (by decide) ?_
    refine g_lcmp_eq (pc := 14) C 22 d_Mo_top_14 d_Mo_top_15 rfl (fun e3 => ?_) (fun e3 => ?_)
    · have h := o_pos e3 h
      refine g_iload_n (pc := 22) C d_Mo_top_22 rfl 1 rfl ?_
      refine g_lv [0, 2] rfl ?_
      exact w_Mo_top_23 C ha0 hk4 h
    · have h := o_neg e3 h
      refine g_iload_n (pc := 18) C d_Mo_top_18 rfl 2 rfl ?_
      refine g_goto (pc := 19) C 23 d_Mo_top_19 rfl ?_
      refine g_lv [0, 2] rfl ?_
      exact w_Mo_top_23 C ha0 hk4 h
set_option maxRecDepth 20000 in
theorem w_Mo_top_4 {X : HX} {ad : Nat → Nat} {I : HI} {J : HJ} {N : HN} {r : Int32} {a0 : Nat} (C : Cx X c_Mo_top RX11 3 (some .int) rm_Mo_top) (ha0 : ga Tm nM a0 2) : ∀ (n : Nat) (x1 : Int32) (x2 : Int32), Mo_top_4 J a0 n x1 x2 = some r → G Tm X ad nM 0 0 I J N (gE X Tm ad nM (I, J, N, fun _ => some (.int r))) 4 3 [(0, .ref (ad a0)), (1, .int x1), (2, .int x2)] [] := by
  intro n
  induction n with
  | zero => intro x1 x2 h; cases h
  | succ n ih => intro x1 x2 h; exact w_Mo_top_4b C ha0 ih h
set_option maxRecDepth 20000 in
theorem w_Mo_top_0 {X : HX} {ad : Nat → Nat} {I : HI} {J : HJ} {N : HN} {r : Int32} {a0 : Nat} (C : Cx X c_Mo_top RX11 3 (some .int) rm_Mo_top) (ha0 : ga Tm nM a0 2)
    (h : Mo_top_0 J a0 = some r) : G Tm X ad nM 0 0 I J N (gE X Tm ad nM (I, J, N, fun _ => some (.int r))) 0 3 [(0, .ref (ad a0))] [] := by
  refine g_iconst (pc := 0) C (-1 : Int32) d_Mo_top_0 (by decide) ?_
  refine g_istore_n (pc := 1) (lv' := [(1, .int (-1 : Int32)), (0, .ref (ad a0))]) C d_Mo_top_1 rfl (by decide) rfl ?_
  refine g_iconst (pc := 2) C (0 : Int32) d_Mo_top_2 (by decide) ?_
  refine g_istore_n (pc := 3) (lv' := [(2, .int (0 : Int32)), (1, .int (-1 : Int32)), (0, .ref (ad a0))]) C d_Mo_top_3 rfl (by decide) rfl ?_
  refine g_lv [2, 1, 0] rfl ?_
  exact w_Mo_top_4 C ha0 _ _ _ h
set_option maxRecDepth 20000 in
theorem k_Mo_top (l : Launch) {I : HI} {J : HJ} {N : HN} {a0 : Nat} {r : Int32} (ha0 : ga Tm nM a0 2) (h : Mo_top J a0 = some r) : gM l y_Mo_top c_Mo_top 3 (some .int) rm_Mo_top Tm nM I J N (fun ad => [.ref (ad a0)]) (I, J, N, fun _ => some (.int r)) :=
  g_meth (lv := fun ad => [(0, .ref (ad a0))]) (by decide) (fun _ => Nat.le_of_ble_eq_true rfl) (fun _ => rfl) (fun X ad C => g_lv [0] rfl (w_Mo_top_0 C ha0 h))
theorem d_Mo_content_0 : decode c_Mo_content 0 = .ok (.lconst 0, 1) := by decide +kernel
theorem d_Mo_content_1 : decode c_Mo_content 1 = .ok (.lstore_n 1, 1) := by decide +kernel
theorem d_Mo_content_2 : decode c_Mo_content 2 = .ok (.iconst 0, 1) := by decide +kernel
theorem d_Mo_content_3 : decode c_Mo_content 3 = .ok (.istore_n 3, 1) := by decide +kernel
theorem d_Mo_content_4 : decode c_Mo_content 4 = .ok (.iload_n 3, 1) := by decide +kernel
theorem d_Mo_content_5 : decode c_Mo_content 5 = .ok (.bipush 7, 2) := by decide +kernel
theorem d_Mo_content_7 : decode c_Mo_content 7 = .ok (.if_icmp .ge 17, 3) := by decide +kernel
theorem d_Mo_content_10 : decode c_Mo_content 10 = .ok (.lload_n 1, 1) := by decide +kernel
theorem d_Mo_content_11 : decode c_Mo_content 11 = .ok (.aload_n 0, 1) := by decide +kernel
theorem d_Mo_content_12 : decode c_Mo_content 12 = .ok (.iload_n 3, 1) := by decide +kernel
theorem d_Mo_content_13 : decode c_Mo_content 13 = .ok (.laload, 1) := by decide +kernel
theorem d_Mo_content_14 : decode c_Mo_content 14 = .ok (.invokestatic 152, 3) := by decide +kernel
theorem d_Mo_content_17 : decode c_Mo_content 17 = .ok (.lstore_n 1, 1) := by decide +kernel
theorem d_Mo_content_18 : decode c_Mo_content 18 = .ok (.iinc 3 1, 3) := by decide +kernel
theorem d_Mo_content_21 : decode c_Mo_content 21 = .ok (.goto (-17), 3) := by decide +kernel
theorem d_Mo_content_24 : decode c_Mo_content 24 = .ok (.iconst 0, 1) := by decide +kernel
theorem d_Mo_content_25 : decode c_Mo_content 25 = .ok (.istore_n 3, 1) := by decide +kernel
theorem d_Mo_content_26 : decode c_Mo_content 26 = .ok (.iload_n 3, 1) := by decide +kernel
theorem d_Mo_content_27 : decode c_Mo_content 27 = .ok (.bipush 7, 2) := by decide +kernel
theorem d_Mo_content_29 : decode c_Mo_content 29 = .ok (.if_icmp .ge 22, 3) := by decide +kernel
theorem d_Mo_content_32 : decode c_Mo_content 32 = .ok (.lload_n 1, 1) := by decide +kernel
theorem d_Mo_content_33 : decode c_Mo_content 33 = .ok (.lconst 1, 1) := by decide +kernel
theorem d_Mo_content_34 : decode c_Mo_content 34 = .ok (.lcmp, 1) := by decide +kernel
theorem d_Mo_content_35 : decode c_Mo_content 35 = .ok (.ifCond .le 16, 3) := by decide +kernel
theorem d_Mo_content_38 : decode c_Mo_content 38 = .ok (.aload_n 0, 1) := by decide +kernel
theorem d_Mo_content_39 : decode c_Mo_content 39 = .ok (.iload_n 3, 1) := by decide +kernel
theorem d_Mo_content_40 : decode c_Mo_content 40 = .ok (.dup2, 1) := by decide +kernel
theorem d_Mo_content_41 : decode c_Mo_content 41 = .ok (.laload, 1) := by decide +kernel
theorem d_Mo_content_42 : decode c_Mo_content 42 = .ok (.lload_n 1, 1) := by decide +kernel
theorem d_Mo_content_43 : decode c_Mo_content 43 = .ok (.ldiv, 1) := by decide +kernel
theorem d_Mo_content_44 : decode c_Mo_content 44 = .ok (.lastore, 1) := by decide +kernel
theorem d_Mo_content_45 : decode c_Mo_content 45 = .ok (.iinc 3 1, 3) := by decide +kernel
theorem d_Mo_content_48 : decode c_Mo_content 48 = .ok (.goto (-22), 3) := by decide +kernel
theorem d_Mo_content_51 : decode c_Mo_content 51 = .ok (.lload_n 1, 1) := by decide +kernel
theorem d_Mo_content_52 : decode c_Mo_content 52 = .ok (.lreturn, 1) := by decide +kernel
set_option maxRecDepth 20000 in
theorem w_Mo_content_26b {X : HX} {ad : Nat → Nat} {I : HI} {J : HJ} {N : HN} {r : HJ × Int64} {k26 : HJ → Int64 → Int32 → Option (HJ × Int64)} {a0 : Nat} {x1 : Int64} {x3 : Int32} (C : Cx X c_Mo_content RX11 4 (some .long) rm_Mo_content) (ha0 : ga Tm nM a0 2)
    (hk26 : ∀ (J : HJ) (x1 : Int64) (x3 : Int32), k26 J x1 x3 = some r → G Tm X ad nM 0 0 I J N (gE X Tm ad nM (I, r.1, N, fun _ => some (.long r.2))) 26 4 [(0, .ref (ad a0)), (1, .long x1), (3, .int x3)] [])
    (h : Mo_content_26b a0 k26 J x1 x3 = some r) : G Tm X ad nM 0 0 I J N (gE X Tm ad nM (I, r.1, N, fun _ => some (.long r.2))) 26 4 [(0, .ref (ad a0)), (1, .long x1), (3, .int x3)] [] := by
  refine g_iload_n (pc := 26) C d_Mo_content_26 rfl 2 rfl ?_
  refine g_bipush (pc := 27) C (7 : Int32) d_Mo_content_27 (by decide) ?_
  refine g_icmp_ge (pc := 29) C 51 d_Mo_content_29 rfl (fun e1 => ?_) (fun e1 => ?_)
  · have h := o_pos e1 h
    refine g_lload_n (pc := 51) C d_Mo_content_51 rfl 1 rfl ?_
    obtain rfl := o_ret h
    exact g_lret (pc := 52) C d_Mo_content_52
  · have h := o_neg e1 h
    refine g_lload_n (pc := 32) C d_Mo_content_32 rfl 1 rfl ?_
    refine g_lconst (pc := 33) C (1 : Int64) d_Mo_content_33 (by decide) ?_
    refine g_lcmp_le (pc := 34) C 51 d_Mo_content_34 d_Mo_content_35 rfl (fun e2 => ?_) (fun e2 => ?_)
    · have h := o_pos e2 h
      refine g_lload_n (pc := 51) C d_Mo_content_51 rfl 1 rfl ?_
      obtain rfl := o_ret h
      exact g_lret (pc := 52) C d_Mo_content_52
    · have h := o_neg e2 h
      refine g_aload_n (pc := 38) C d_Mo_content_38 rfl 0 rfl ?_
      refine g_iload_n (pc := 39) C d_Mo_content_39 rfl 2 rfl ?_
      refine g_dup2 (pc := 40) C d_Mo_content_40 rfl rfl ?_
      obtain ⟨hi3, h⟩ := o_gd h
      refine g_lald (pc := 41) C ha0 hi3 d_Mo_content_41 ?_
      refine g_lload_n (pc := 42) C d_Mo_content_42 rfl 1 rfl ?_
      obtain ⟨hz4, h⟩ := o_gd h
      refine g_ldiv (pc := 43) C d_Mo_content_43 (of_decide_eq_true hz4) ?_
      obtain ⟨hi5, h⟩ := o_gd h
      refine g_last (pc := 44) C ha0 hi5 d_Mo_content_44 ?_
      obtain ⟨J6, eJ6, h⟩ := o_bd h
      rw [← eJ6]
      refine g_iinc (pc := 45) (q := 2) (lv' := [(3, .int (x3 + 1)), (0, .ref (ad a0)), (1, .long x1)]) C d_Mo_content_45 rfl rfl (by decide) rfl ?_
      refine g_goto (pc := 48) C 26 d_Mo_content_48 rfl ?_
      refine g_lv [1, 2, 0] rfl ?_
      exact hk26 _ _ _ h
set_option maxRecDepth 20000 in
theorem w_Mo_content_26 {X : HX} {ad : Nat → Nat} {I : HI} {N : HN} {r : HJ × Int64} {a0 : Nat} (C : Cx X c_Mo_content RX11 4 (some .long) rm_Mo_content) (ha0 : ga Tm nM a0 2) : ∀ (n : Nat) (J : HJ) (x1 : Int64) (x3 : Int32), Mo_content_26 a0 n J x1 x3 = some r → G Tm X ad nM 0 0 I J N (gE X Tm ad nM (I, r.1, N, fun _ => some (.long r.2))) 26 4 [(0, .ref (ad a0)), (1, .long x1), (3, .int x3)] [] := by
  intro n
  induction n with
  | zero => intro J x1 x3 h; cases h
  | succ n ih => intro J x1 x3 h; exact w_Mo_content_26b C ha0 ih h
set_option maxRecDepth 20000 in
theorem w_Mo_content_4b {X : HX} {ad : Nat → Nat} {I : HI} {J : HJ} {N : HN} {r : HJ × Int64} {k4 : HJ → Int64 → Int32 → Option (HJ × Int64)} {a0 : Nat} {x1 : Int64} {x3 : Int32} (C : Cx X c_Mo_content RX11 4 (some .long) rm_Mo_content) (ha0 : ga Tm nM a0 2)
    (hk4 : ∀ (J : HJ) (x1 : Int64) (x3 : Int32), k4 J x1 x3 = some r → G Tm X ad nM 0 0 I J N (gE X Tm ad nM (I, r.1, N, fun _ => some (.long r.2))) 4 4 [(0, .ref (ad a0)), (1, .long x1), (3, .int x3)] [])
    (h : Mo_content_4b a0 k4 J x1 x3 = some r) : G Tm X ad nM 0 0 I J N (gE X Tm ad nM (I, r.1, N, fun _ => some (.long r.2))) 4 4 [(0, .ref (ad a0)), (1, .long x1), (3, .int x3)] [] := by
  refine g_iload_n (pc := 4) C d_Mo_content_4 rfl 2 rfl ?_
  refine g_bipush (pc := 5) C (7 : Int32) d_Mo_content_5 (by decide) ?_
  refine g_icmp_ge (pc := 7) C 24 d_Mo_content_7 rfl (fun e1 => ?_) (fun e1 => ?_)
  · have h := o_pos e1 h
    refine g_iconst (pc := 24) C (0 : Int32) d_Mo_content_24 (by decide) ?_
    refine g_istore_n (pc := 25) (lv' := [(3, .int (0 : Int32)), (0, .ref (ad a0)), (1, .long x1)]) C d_Mo_content_25 rfl (by decide) rfl ?_
    refine g_lv [1, 2, 0] rfl ?_
    exact w_Mo_content_26 C ha0 _ _ _ _ h
  · have h := o_neg e1 h
    refine g_lload_n (pc := 10) C d_Mo_content_10 rfl 1 rfl ?_
    refine g_aload_n (pc := 11) C d_Mo_content_11 rfl 0 rfl ?_
    refine g_iload_n (pc := 12) C d_Mo_content_12 rfl 2 rfl ?_
    obtain ⟨hi2, h⟩ := o_gd h
    refine g_lald (pc := 13) C ha0 hi2 d_Mo_content_13 ?_
    obtain ⟨r3, hc4, h⟩ := o_bn1 h
    refine g_S (pc := 14) (rest := []) C (k_Mo_divisor (xl X)  hc4) sm_Mo_divisor ml_Mo_152 st_Mo_divisor ⟨rfl, rfl, Nat.le_of_ble_eq_true rfl, Nat.le_of_ble_eq_true rfl⟩ ⟨Nat.zero_le _, Nat.zero_le _⟩ rfl rfl (Nat.le_of_ble_eq_true rfl) d_Mo_content_14 [.long r3] rfl ?_
    refine g_lstore_n (pc := 17) (lv' := [(1, .long r3), (0, .ref (ad a0)), (3, .int x3)]) C d_Mo_content_17 rfl (by decide) rfl ?_
    refine g_iinc (pc := 18) (q := 2) (lv' := [(3, .int (x3 + 1)), (1, .long r3), (0, .ref (ad a0))]) C d_Mo_content_18 rfl rfl (by decide) rfl ?_
    refine g_goto (pc := 21) C 4 d_Mo_content_21 rfl ?_
    refine g_lv [2, 1, 0] rfl ?_
    exact hk4 _ _ _ h
set_option maxRecDepth 20000 in
theorem w_Mo_content_4 {X : HX} {ad : Nat → Nat} {I : HI} {N : HN} {r : HJ × Int64} {a0 : Nat} (C : Cx X c_Mo_content RX11 4 (some .long) rm_Mo_content) (ha0 : ga Tm nM a0 2) : ∀ (n : Nat) (J : HJ) (x1 : Int64) (x3 : Int32), Mo_content_4 a0 n J x1 x3 = some r → G Tm X ad nM 0 0 I J N (gE X Tm ad nM (I, r.1, N, fun _ => some (.long r.2))) 4 4 [(0, .ref (ad a0)), (1, .long x1), (3, .int x3)] [] := by
  intro n
  induction n with
  | zero => intro J x1 x3 h; cases h
  | succ n ih => intro J x1 x3 h; exact w_Mo_content_4b C ha0 ih h
set_option maxRecDepth 20000 in
theorem w_Mo_content_0 {X : HX} {ad : Nat → Nat} {I : HI} {J : HJ} {N : HN} {r : HJ × Int64} {a0 : Nat} (C : Cx X c_Mo_content RX11 4 (some .long) rm_Mo_content) (ha0 : ga Tm nM a0 2)
    (h : Mo_content_0 a0 J = some r) : G Tm X ad nM 0 0 I J N (gE X Tm ad nM (I, r.1, N, fun _ => some (.long r.2))) 0 4 [(0, .ref (ad a0))] [] := by
  refine g_lconst (pc := 0) C (0 : Int64) d_Mo_content_0 (by decide) ?_
  refine g_lstore_n (pc := 1) (lv' := [(1, .long (0 : Int64)), (0, .ref (ad a0))]) C d_Mo_content_1 rfl (by decide) rfl ?_
  refine g_iconst (pc := 2) C (0 : Int32) d_Mo_content_2 (by decide) ?_
  refine g_istore_n (pc := 3) (lv' := [(3, .int (0 : Int32)), (1, .long (0 : Int64)), (0, .ref (ad a0))]) C d_Mo_content_3 rfl (by decide) rfl ?_
  refine g_lv [2, 1, 0] rfl ?_
  exact w_Mo_content_4 C ha0 _ _ _ _ h
set_option maxRecDepth 20000 in
theorem k_Mo_content (l : Launch) {I : HI} {J : HJ} {N : HN} {a0 : Nat} {r : HJ × Int64} (ha0 : ga Tm nM a0 2) (h : Mo_content a0 J = some r) : gM l y_Mo_content c_Mo_content 4 (some .long) rm_Mo_content Tm nM I J N (fun ad => [.ref (ad a0)]) (I, r.1, N, fun _ => some (.long r.2)) :=
  g_meth (lv := fun ad => [(0, .ref (ad a0))]) (by decide) (fun _ => Nat.le_of_ble_eq_true rfl) (fun _ => rfl) (fun X ad C => g_lv [0] rfl (w_Mo_content_0 C ha0 h))
theorem d_Mo_scales_0 : decode c_Mo_scales 0 = .ok (.lload_n 1, 1) := by decide +kernel
theorem d_Mo_scales_1 : decode c_Mo_scales 1 = .ok (.lload 7, 2) := by decide +kernel
theorem d_Mo_scales_3 : decode c_Mo_scales 3 = .ok (.invokestatic 152, 3) := by decide +kernel
theorem d_Mo_scales_6 : decode c_Mo_scales 6 = .ok (.lstore 9, 2) := by decide +kernel
theorem d_Mo_scales_8 : decode c_Mo_scales 8 = .ok (.lload 5, 2) := by decide +kernel
theorem d_Mo_scales_10 : decode c_Mo_scales 10 = .ok (.lload_n 3, 1) := by decide +kernel
theorem d_Mo_scales_11 : decode c_Mo_scales 11 = .ok (.invokestatic 152, 3) := by decide +kernel
theorem d_Mo_scales_14 : decode c_Mo_scales 14 = .ok (.lstore 11, 2) := by decide +kernel
theorem d_Mo_scales_16 : decode c_Mo_scales 16 = .ok (.aload_n 0, 1) := by decide +kernel
theorem d_Mo_scales_17 : decode c_Mo_scales 17 = .ok (.lload_n 1, 1) := by decide +kernel
theorem d_Mo_scales_18 : decode c_Mo_scales 18 = .ok (.lload 9, 2) := by decide +kernel
theorem d_Mo_scales_20 : decode c_Mo_scales 20 = .ok (.ldiv, 1) := by decide +kernel
theorem d_Mo_scales_21 : decode c_Mo_scales 21 = .ok (.lload 5, 2) := by decide +kernel
theorem d_Mo_scales_23 : decode c_Mo_scales 23 = .ok (.lload 11, 2) := by decide +kernel
theorem d_Mo_scales_25 : decode c_Mo_scales 25 = .ok (.ldiv, 1) := by decide +kernel
theorem d_Mo_scales_26 : decode c_Mo_scales 26 = .ok (.lmul, 1) := by decide +kernel
theorem d_Mo_scales_27 : decode c_Mo_scales 27 = .ok (.putfield 178, 3) := by decide +kernel
theorem d_Mo_scales_30 : decode c_Mo_scales 30 = .ok (.aload_n 0, 1) := by decide +kernel
theorem d_Mo_scales_31 : decode c_Mo_scales 31 = .ok (.lload_n 3, 1) := by decide +kernel
theorem d_Mo_scales_32 : decode c_Mo_scales 32 = .ok (.lload 11, 2) := by decide +kernel
theorem d_Mo_scales_34 : decode c_Mo_scales 34 = .ok (.ldiv, 1) := by decide +kernel
theorem d_Mo_scales_35 : decode c_Mo_scales 35 = .ok (.lload 7, 2) := by decide +kernel
theorem d_Mo_scales_37 : decode c_Mo_scales 37 = .ok (.lload 9, 2) := by decide +kernel
theorem d_Mo_scales_39 : decode c_Mo_scales 39 = .ok (.ldiv, 1) := by decide +kernel
theorem d_Mo_scales_40 : decode c_Mo_scales 40 = .ok (.lmul, 1) := by decide +kernel
theorem d_Mo_scales_41 : decode c_Mo_scales 41 = .ok (.putfield 181, 3) := by decide +kernel
theorem d_Mo_scales_44 : decode c_Mo_scales 44 = .ok (.aload_n 0, 1) := by decide +kernel
theorem d_Mo_scales_45 : decode c_Mo_scales 45 = .ok (.getfield 181, 3) := by decide +kernel
theorem d_Mo_scales_48 : decode c_Mo_scales 48 = .ok (.lconst 0, 1) := by decide +kernel
theorem d_Mo_scales_49 : decode c_Mo_scales 49 = .ok (.lcmp, 1) := by decide +kernel
theorem d_Mo_scales_50 : decode c_Mo_scales 50 = .ok (.ifCond .ge 23, 3) := by decide +kernel
theorem d_Mo_scales_53 : decode c_Mo_scales 53 = .ok (.aload_n 0, 1) := by decide +kernel
theorem d_Mo_scales_54 : decode c_Mo_scales 54 = .ok (.lconst 0, 1) := by decide +kernel
theorem d_Mo_scales_55 : decode c_Mo_scales 55 = .ok (.aload_n 0, 1) := by decide +kernel
theorem d_Mo_scales_56 : decode c_Mo_scales 56 = .ok (.getfield 178, 3) := by decide +kernel
theorem d_Mo_scales_59 : decode c_Mo_scales 59 = .ok (.lsub, 1) := by decide +kernel
theorem d_Mo_scales_60 : decode c_Mo_scales 60 = .ok (.putfield 178, 3) := by decide +kernel
theorem d_Mo_scales_63 : decode c_Mo_scales 63 = .ok (.aload_n 0, 1) := by decide +kernel
theorem d_Mo_scales_64 : decode c_Mo_scales 64 = .ok (.lconst 0, 1) := by decide +kernel
theorem d_Mo_scales_65 : decode c_Mo_scales 65 = .ok (.aload_n 0, 1) := by decide +kernel
theorem d_Mo_scales_66 : decode c_Mo_scales 66 = .ok (.getfield 181, 3) := by decide +kernel
theorem d_Mo_scales_69 : decode c_Mo_scales 69 = .ok (.lsub, 1) := by decide +kernel
theorem d_Mo_scales_70 : decode c_Mo_scales 70 = .ok (.putfield 181, 3) := by decide +kernel
theorem d_Mo_scales_73 : decode c_Mo_scales 73 = .ok (.return_, 1) := by decide +kernel
set_option maxRecDepth 20000 in
theorem w_Mo_scales_0 {X : HX} {ad : Nat → Nat} {I : HI} {J : HJ} {N : HN} {r : HJ} {a0 : Nat} {p1 : Int64} {p3 : Int64} {p5 : Int64} {p7 : Int64} (C : Cx X c_Mo_scales RX11 13 none rm_Mo_scales) (ha0 : gk Tm nM a0 (0, 11))
    (h : Mo_scales_0 a0 p1 p3 p5 p7 J = some r) : G Tm X ad nM 0 0 I J N (gE X Tm ad nM (I, r, N, fun _ => none)) 0 13 [(0, .ref (ad a0)), (1, .long p1), (3, .long p3), (5, .long p5), (7, .long p7)] [] := by
  refine g_lload_n (pc := 0) C d_Mo_scales_0 rfl 1 rfl ?_
  refine g_lload (pc := 1) C d_Mo_scales_1 4 rfl ?_
  obtain ⟨r1, hc2, h⟩ := o_bn1 h
  refine g_S (pc := 3) (rest := []) C (k_Mo_divisor (xl X)  hc2) sm_Mo_divisor ml_Mo_152 st_Mo_divisor ⟨rfl, rfl, Nat.le_of_ble_eq_true rfl, Nat.le_of_ble_eq_true rfl⟩ ⟨Nat.zero_le _, Nat.zero_le _⟩ rfl rfl (Nat.le_of_ble_eq_true rfl) d_Mo_scales_3 [.long r1] rfl ?_
  refine g_lstore (pc := 6) (lv' := [(9, .long r1), (0, .ref (ad a0)), (1, .long p1), (3, .long p3), (5, .long p5), (7, .long p7)]) C d_Mo_scales_6 (by decide) rfl ?_
  refine g_lload (pc := 8) C d_Mo_scales_8 4 rfl ?_
  refine g_lload_n (pc := 10) C d_Mo_scales_10 rfl 3 rfl ?_
  obtain ⟨r3, hc4, h⟩ := o_bn1 h
  refine g_S (pc := 11) (rest := []) C (k_Mo_divisor (xl X)  hc4) sm_Mo_divisor ml_Mo_152 st_Mo_divisor ⟨rfl, rfl, Nat.le_of_ble_eq_true rfl, Nat.le_of_ble_eq_true rfl⟩ ⟨Nat.zero_le _, Nat.zero_le _⟩ rfl rfl (Nat.le_of_ble_eq_true rfl) d_Mo_scales_11 [.long r3] rfl ?_
  refine g_lstore (pc := 14) (lv' := [(11, .long r3), (9, .long r1), (0, .ref (ad a0)), (1, .long p1), (3, .long p3), (5, .long p5), (7, .long p7)]) C d_Mo_scales_14 (by decide) rfl ?_
  refine g_aload_n (pc := 16) C d_Mo_scales_16 rfl 2 rfl ?_
  refine g_lload_n (pc := 17) C d_Mo_scales_17 rfl 3 rfl ?_
  refine g_lload (pc := 18) C d_Mo_scales_18 1 rfl ?_
  obtain ⟨hz5, h⟩ := o_gd h
  refine g_ldiv (pc := 20) C d_Mo_scales_20 (of_decide_eq_true hz5) ?_
  refine g_lload (pc := 21) C d_Mo_scales_21 5 rfl ?_
  refine g_lload (pc := 23) C d_Mo_scales_23 0 rfl ?_
  obtain ⟨hz6, h⟩ := o_gd h
  refine g_ldiv (pc := 25) C d_Mo_scales_25 (of_decide_eq_true hz6) ?_
  refine g_lmul (pc := 26) C d_Mo_scales_26 ?_
  refine g_put (pc := 27) (I' := I) (J' := up2 J a0 13 ((p1 / r1) * (p5 / r3))) (N' := N) (k := 13) C gcX11 inX11 tyX11_ok nmX11 (by decide) fl_Mo_178 rfl ha0 (tyX11_ok 13 (by decide)) rfl rfl (Nat.le_of_ble_eq_true rfl) gs_11_13 (fun _ _ => rfl) (fun b hb => up2_of hb) (fun _ _ => rfl) d_Mo_scales_27 ?_
  obtain ⟨J7, eJ7, h⟩ := o_bd h
  rw [← eJ7]
  refine g_aload_n (pc := 30) C d_Mo_scales_30 rfl 2 rfl ?_
  refine g_lload_n (pc := 31) C d_Mo_scales_31 rfl 4 rfl ?_
  refine g_lload (pc := 32) C d_Mo_scales_32 0 rfl ?_
  obtain ⟨hz8, h⟩ := o_gd h
  refine g_ldiv (pc := 34) C d_Mo_scales_34 (of_decide_eq_true hz8) ?_
  refine g_lload (pc := 35) C d_Mo_scales_35 6 rfl ?_
  refine g_lload (pc := 37) C d_Mo_scales_37 1 rfl ?_
  obtain ⟨hz9, h⟩ := o_gd h
  refine g_ldiv (pc := 39) C d_Mo_scales_39 (of_decide_eq_true hz9) ?_
  refine g_lmul (pc := 40) C d_Mo_scales_40 ?_
  refine g_put (pc := 41) (I' := I) (J' := up2 J7 a0 14 ((p3 / r3) * (p7 / r1))) (N' := N) (k := 14) C gcX11 inX11 tyX11_ok nmX11 (by decide) fl_Mo_181 rfl ha0 (tyX11_ok 14 (by decide)) rfl rfl (Nat.le_of_ble_eq_true rfl) gs_11_14 (fun _ _ => rfl) (fun b hb => up2_of hb) (fun _ _ => rfl) d_Mo_scales_41 ?_
  obtain ⟨J10, eJ10, h⟩ := o_bd h
  rw [← eJ10]
  refine g_aload_n (pc := 44) C d_Mo_scales_44 rfl 2 rfl ?_
  refine g_get (pc := 45) (k := 14) (v := .long (J10 a0 14)) C gcX11 inX11 (by decide) fl_Mo_181 ha0 rfl d_Mo_scales_45 ?_
  refine g_lconst (pc := 48) C (0 : Int64) d_Mo_scales_48 (by decide) ?_
  refine g_lcmp_ge (pc := 49) C 73 d_Mo_scales_49 d_Mo_scales_50 rfl (fun e11 => ?_) (fun e11 => ?_)
  · have h := o_pos e11 h
    obtain rfl := o_ret h
    exact g_vret (pc := 73) C d_Mo_scales_73
  · have h := o_neg e11 h
    refine g_aload_n (pc := 53) C d_Mo_scales_53 rfl 2 rfl ?_
    refine g_lconst (pc := 54) C (0 : Int64) d_Mo_scales_54 (by decide) ?_
    refine g_aload_n (pc := 55) C d_Mo_scales_55 rfl 2 rfl ?_
    refine g_get (pc := 56) (k := 13) (v := .long (J10 a0 13)) C gcX11 inX11 (by decide) fl_Mo_178 ha0 rfl d_Mo_scales_56 ?_
    refine g_lsub (pc := 59) C d_Mo_scales_59 ?_
    refine g_put (pc := 60) (I' := I) (J' := up2 J10 a0 13 ((0 : Int64) - (J10 a0 13))) (N' := N) (k := 13) C gcX11 inX11 tyX11_ok nmX11 (by decide) fl_Mo_178 rfl ha0 (tyX11_ok 13 (by decide)) rfl rfl (Nat.le_of_ble_eq_true rfl) gs_11_13 (fun _ _ => rfl) (fun b hb => up2_of hb) (fun _ _ => rfl) d_Mo_scales_60 ?_
    obtain ⟨J12, eJ12, h⟩ := o_bd h
    rw [← eJ12]
    refine g_aload_n (pc := 63) C d_Mo_scales_63 rfl 2 rfl ?_
    refine g_lconst (pc := 64) C (0 : Int64) d_Mo_scales_64 (by decide) ?_
    refine g_aload_n (pc := 65) C d_Mo_scales_65 rfl 2 rfl ?_
    refine g_get (pc := 66) (k := 14) (v := .long (J12 a0 14)) C gcX11 inX11 (by decide) fl_Mo_181 ha0 rfl d_Mo_scales_66 ?_
    refine g_lsub (pc := 69) C d_Mo_scales_69 ?_
    refine g_put (pc := 70) (I' := I) (J' := up2 J12 a0 14 ((0 : Int64) - (J12 a0 14))) (N' := N) (k := 14) C gcX11 inX11 tyX11_ok nmX11 (by decide) fl_Mo_181 rfl ha0 (tyX11_ok 14 (by decide)) rfl rfl (Nat.le_of_ble_eq_true rfl) gs_11_14 (fun _ _ => rfl) (fun b hb => up2_of hb) (fun _ _ => rfl) d_Mo_scales_70 ?_
    obtain ⟨J13, eJ13, h⟩ := o_bd h
    rw [← eJ13]
    obtain rfl := o_ret h
    exact g_vret (pc := 73) C d_Mo_scales_73
set_option maxRecDepth 20000 in
theorem k_Mo_scales (l : Launch) {I : HI} {J : HJ} {N : HN} {a0 : Nat} {p1 : Int64} {p3 : Int64} {p5 : Int64} {p7 : Int64} {r : HJ} (ha0 : gk Tm nM a0 (0, 11)) (h : Mo_scales a0 p1 p3 p5 p7 J = some r) : gM l y_Mo_scales c_Mo_scales 13 none rm_Mo_scales Tm nM I J N (fun ad => [.ref (ad a0), .long p1, .long p3, .long p5, .long p7]) (I, r, N, fun _ => none) :=
  g_meth (lv := fun ad => [(0, .ref (ad a0)), (1, .long p1), (3, .long p3), (5, .long p5), (7, .long p7)]) (by decide) (fun _ => Nat.le_of_ble_eq_true rfl) (fun _ => rfl) (fun X ad C => g_lv [0, 1, 2, 3, 4] rfl (w_Mo_scales_0 C ha0 h))
theorem d_Mo_swaps_0 : decode c_Mo_swaps 0 = .ok (.iconst 0, 1) := by decide +kernel
theorem d_Mo_swaps_1 : decode c_Mo_swaps 1 = .ok (.istore_n 1, 1) := by decide +kernel
theorem d_Mo_swaps_2 : decode c_Mo_swaps 2 = .ok (.iload_n 1, 1) := by decide +kernel
theorem d_Mo_swaps_3 : decode c_Mo_swaps 3 = .ok (.bipush 7, 2) := by decide +kernel
theorem d_Mo_swaps_5 : decode c_Mo_swaps 5 = .ok (.if_icmp .ge 35, 3) := by decide +kernel
theorem d_Mo_swaps_8 : decode c_Mo_swaps 8 = .ok (.aload_n 0, 1) := by decide +kernel
theorem d_Mo_swaps_9 : decode c_Mo_swaps 9 = .ok (.getfield 29, 3) := by decide +kernel
theorem d_Mo_swaps_12 : decode c_Mo_swaps 12 = .ok (.iload_n 1, 1) := by decide +kernel
theorem d_Mo_swaps_13 : decode c_Mo_swaps 13 = .ok (.laload, 1) := by decide +kernel
theorem d_Mo_swaps_14 : decode c_Mo_swaps 14 = .ok (.lstore_n 2, 1) := by decide +kernel
theorem d_Mo_swaps_15 : decode c_Mo_swaps 15 = .ok (.aload_n 0, 1) := by decide +kernel
theorem d_Mo_swaps_16 : decode c_Mo_swaps 16 = .ok (.getfield 29, 3) := by decide +kernel
theorem d_Mo_swaps_19 : decode c_Mo_swaps 19 = .ok (.iload_n 1, 1) := by decide +kernel
theorem d_Mo_swaps_20 : decode c_Mo_swaps 20 = .ok (.aload_n 0, 1) := by decide +kernel
theorem d_Mo_swaps_21 : decode c_Mo_swaps 21 = .ok (.getfield 32, 3) := by decide +kernel
theorem d_Mo_swaps_24 : decode c_Mo_swaps 24 = .ok (.iload_n 1, 1) := by decide +kernel
theorem d_Mo_swaps_25 : decode c_Mo_swaps 25 = .ok (.laload, 1) := by decide +kernel
theorem d_Mo_swaps_26 : decode c_Mo_swaps 26 = .ok (.lastore, 1) := by decide +kernel
theorem d_Mo_swaps_27 : decode c_Mo_swaps 27 = .ok (.aload_n 0, 1) := by decide +kernel
theorem d_Mo_swaps_28 : decode c_Mo_swaps 28 = .ok (.getfield 32, 3) := by decide +kernel
theorem d_Mo_swaps_31 : decode c_Mo_swaps 31 = .ok (.iload_n 1, 1) := by decide +kernel
theorem d_Mo_swaps_32 : decode c_Mo_swaps 32 = .ok (.lload_n 2, 1) := by decide +kernel
theorem d_Mo_swaps_33 : decode c_Mo_swaps 33 = .ok (.lastore, 1) := by decide +kernel
theorem d_Mo_swaps_34 : decode c_Mo_swaps 34 = .ok (.iinc 1 1, 3) := by decide +kernel
theorem d_Mo_swaps_37 : decode c_Mo_swaps 37 = .ok (.goto (-35), 3) := by decide +kernel
theorem d_Mo_swaps_40 : decode c_Mo_swaps 40 = .ok (.return_, 1) := by decide +kernel
set_option maxRecDepth 20000 in
theorem w_Mo_swaps_2b {X : HX} {ad : Nat → Nat} {I : HI} {J : HJ} {N : HN} {r : HJ} {k2 : HJ → Int32 → Option (HJ)} {a0 : Nat} {x1 : Int32} (C : Cx X c_Mo_swaps RX11 4 none rm_Mo_swaps) (ha0 : gk Tm nM a0 (0, 11))
    (hk2 : ∀ (J : HJ) (x1 : Int32), k2 J x1 = some r → G Tm X ad nM 0 0 I J N (gE X Tm ad nM (I, r, N, fun _ => none)) 2 4 [(0, .ref (ad a0)), (1, .int x1)] [])
    (h : Mo_swaps_2b N a0 k2 J x1 = some r) : G Tm X ad nM 0 0 I J N (gE X Tm ad nM (I, r, N, fun _ => none)) 2 4 [(0, .ref (ad a0)), (1, .int x1)] [] := by
  refine g_iload_n (pc := 2) C d_Mo_swaps_2 rfl 1 rfl ?_
  refine g_bipush (pc := 3) C (7 : Int32) d_Mo_swaps_3 (by decide) ?_
  refine g_icmp_ge (pc := 5) C 40 d_Mo_swaps_5 rfl (fun e1 => ?_) (fun e1 => ?_)
  · have h := o_pos e1 h
    obtain rfl := o_ret h
    exact g_vret (pc := 40) C d_Mo_swaps_40
  · have h := o_neg e1 h
    refine g_aload_n (pc := 8) C d_Mo_swaps_8 rfl 0 rfl ?_
    obtain ⟨b2, hnb2, hb2, h⟩ := o_ra h
    refine g_get (pc := 9) (k := 11) (v := va_rf ((N a0 11).map ad)) C gcX11 inX11 (by decide) fl_Mo_29 ha0 rfl d_Mo_swaps_9 ?_
    refine g_top (g_rf hnb2) ?_
    refine g_iload_n (pc := 12) C d_Mo_swaps_12 rfl 1 rfl ?_
    obtain ⟨hi3, h⟩ := o_gd h
    refine g_lald (pc := 13) C hb2 hi3 d_Mo_swaps_13 ?_
    obtain ⟨v4, ev4, h⟩ := o_bd h
    refine g_topl ev4 ?_
    refine g_lstore_n (pc := 14) (lv' := [(2, .long v4), (0, .ref (ad a0)), (1, .int x1)]) C d_Mo_swaps_14 rfl (by decide) rfl ?_
    refine g_aload_n (pc := 15) C d_Mo_swaps_15 rfl 1 rfl ?_
    obtain ⟨b5, hnb5, hb5, h⟩ := o_ra h
    refine g_get (pc := 16) (k := 11) (v := va_rf ((N a0 11).map ad)) C gcX11 inX11 (by decide) fl_Mo_29 ha0 rfl d_Mo_swaps_16 ?_
    refine g_top (g_rf hnb5) ?_
    refine g_iload_n (pc := 19) C d_Mo_swaps_19 rfl 2 rfl ?_
    refine g_aload_n (pc := 20) C d_Mo_swaps_20 rfl 1 rfl ?_
    obtain ⟨b6, hnb6, hb6, h⟩ := o_ra h
    refine g_get (pc := 21) (k := 12) (v := va_rf ((N a0 12).map ad)) C gcX11 inX11 (by decide) fl_Mo_32 ha0 rfl d_Mo_swaps_21 ?_
    refine g_top (g_rf hnb6) ?_
    refine g_iload_n (pc := 24) C d_Mo_swaps_24 rfl 2 rfl ?_
    obtain ⟨hi7, h⟩ := o_gd h
    refine g_lald (pc := 25) C hb6 hi7 d_Mo_swaps_25 ?_
    obtain ⟨hi8, h⟩ := o_gd h
    refine g_last (pc := 26) C hb5 hi8 d_Mo_swaps_26 ?_
    obtain ⟨J9, eJ9, h⟩ := o_bd h
    rw [← eJ9]
    refine g_aload_n (pc := 27) C d_Mo_swaps_27 rfl 1 rfl ?_
    obtain ⟨b10, hnb10, hb10, h⟩ := o_ra h
    refine g_get (pc := 28) (k := 12) (v := va_rf ((N a0 12).map ad)) C gcX11 inX11 (by decide) fl_Mo_32 ha0 rfl d_Mo_swaps_28 ?_
    refine g_top (g_rf hnb10) ?_
    refine g_iload_n (pc := 31) C d_Mo_swaps_31 rfl 2 rfl ?_
    refine g_lload_n (pc := 32) C d_Mo_swaps_32 rfl 0 rfl ?_
    obtain ⟨hi11, h⟩ := o_gd h
    refine g_last (pc := 33) C hb10 hi11 d_Mo_swaps_33 ?_
    obtain ⟨J12, eJ12, h⟩ := o_bd h
    rw [← eJ12]
    refine g_iinc (pc := 34) (q := 2) (lv' := [(1, .int (x1 + 1)), (2, .long v4), (0, .ref (ad a0))]) C d_Mo_swaps_34 rfl rfl (by decide) rfl ?_
    refine g_goto (pc := 37) C 2 d_Mo_swaps_37 rfl ?_
    refine g_lv [2, 0] rfl ?_
    exact hk2 _ _ h
set_option maxRecDepth 20000 in
theorem w_Mo_swaps_2 {X : HX} {ad : Nat → Nat} {I : HI} {N : HN} {r : HJ} {a0 : Nat} (C : Cx X c_Mo_swaps RX11 4 none rm_Mo_swaps) (ha0 : gk Tm nM a0 (0, 11)) : ∀ (n : Nat) (J : HJ) (x1 : Int32), Mo_swaps_2 N a0 n J x1 = some r → G Tm X ad nM 0 0 I J N (gE X Tm ad nM (I, r, N, fun _ => none)) 2 4 [(0, .ref (ad a0)), (1, .int x1)] [] := by
  intro n
  induction n with
  | zero => intro J x1 h; cases h
  | succ n ih => intro J x1 h; exact w_Mo_swaps_2b C ha0 ih h
set_option maxRecDepth 20000 in
theorem w_Mo_swaps_0 {X : HX} {ad : Nat → Nat} {I : HI} {J : HJ} {N : HN} {r : HJ} {a0 : Nat} (C : Cx X c_Mo_swaps RX11 4 none rm_Mo_swaps) (ha0 : gk Tm nM a0 (0, 11))
    (h : Mo_swaps_0 N a0 J = some r) : G Tm X ad nM 0 0 I J N (gE X Tm ad nM (I, r, N, fun _ => none)) 0 4 [(0, .ref (ad a0))] [] := by
  refine g_iconst (pc := 0) C (0 : Int32) d_Mo_swaps_0 (by decide) ?_
  refine g_istore_n (pc := 1) (lv' := [(1, .int (0 : Int32)), (0, .ref (ad a0))]) C d_Mo_swaps_1 rfl (by decide) rfl ?_
  refine g_lv [1, 0] rfl ?_
  exact w_Mo_swaps_2 C ha0 _ _ _ h
set_option maxRecDepth 20000 in
theorem k_Mo_swaps (l : Launch) {I : HI} {J : HJ} {N : HN} {a0 : Nat} {r : HJ} (ha0 : gk Tm nM a0 (0, 11)) (h : Mo_swaps N a0 J = some r) : gM l y_Mo_swaps c_Mo_swaps 4 none rm_Mo_swaps Tm nM I J N (fun ad => [.ref (ad a0)]) (I, r, N, fun _ => none) :=
  g_meth (lv := fun ad => [(0, .ref (ad a0))]) (by decide) (fun _ => Nat.le_of_ble_eq_true rfl) (fun _ => rfl) (fun X ad C => g_lv [0] rfl (w_Mo_swaps_0 C ha0 h))
theorem d_Mo_dividesOnce_0 : decode c_Mo_dividesOnce 0 = .ok (.aload_n 0, 1) := by decide +kernel
theorem d_Mo_dividesOnce_1 : decode c_Mo_dividesOnce 1 = .ok (.getfield 32, 3) := by decide +kernel
theorem d_Mo_dividesOnce_4 : decode c_Mo_dividesOnce 4 = .ok (.invokestatic 184, 3) := by decide +kernel
theorem d_Mo_dividesOnce_7 : decode c_Mo_dividesOnce 7 = .ok (.istore 4, 2) := by decide +kernel
theorem d_Mo_dividesOnce_9 : decode c_Mo_dividesOnce 9 = .ok (.aload_n 0, 1) := by decide +kernel
theorem d_Mo_dividesOnce_10 : decode c_Mo_dividesOnce 10 = .ok (.getfield 29, 3) := by decide +kernel
theorem d_Mo_dividesOnce_13 : decode c_Mo_dividesOnce 13 = .ok (.invokestatic 184, 3) := by decide +kernel
theorem d_Mo_dividesOnce_16 : decode c_Mo_dividesOnce 16 = .ok (.iload 4, 2) := by decide +kernel
theorem d_Mo_dividesOnce_18 : decode c_Mo_dividesOnce 18 = .ok (.iconst 1, 1) := by decide +kernel
theorem d_Mo_dividesOnce_19 : decode c_Mo_dividesOnce 19 = .ok (.iadd, 1) := by decide +kernel
theorem d_Mo_dividesOnce_20 : decode c_Mo_dividesOnce 20 = .ok (.if_icmp .eq 8, 3) := by decide +kernel
theorem d_Mo_dividesOnce_23 : decode c_Mo_dividesOnce 23 = .ok (.bipush (-100), 2) := by decide +kernel
theorem d_Mo_dividesOnce_25 : decode c_Mo_dividesOnce 25 = .ok (.iload_n 3, 1) := by decide +kernel
theorem d_Mo_dividesOnce_26 : decode c_Mo_dividesOnce 26 = .ok (.isub, 1) := by decide +kernel
theorem d_Mo_dividesOnce_27 : decode c_Mo_dividesOnce 27 = .ok (.ireturn, 1) := by decide +kernel
theorem d_Mo_dividesOnce_28 : decode c_Mo_dividesOnce 28 = .ok (.aload_n 0, 1) := by decide +kernel
theorem d_Mo_dividesOnce_29 : decode c_Mo_dividesOnce 29 = .ok (.getfield 29, 3) := by decide +kernel
theorem d_Mo_dividesOnce_32 : decode c_Mo_dividesOnce 32 = .ok (.iload 4, 2) := by decide +kernel
theorem d_Mo_dividesOnce_34 : decode c_Mo_dividesOnce 34 = .ok (.iconst 1, 1) := by decide +kernel
theorem d_Mo_dividesOnce_35 : decode c_Mo_dividesOnce 35 = .ok (.iadd, 1) := by decide +kernel
theorem d_Mo_dividesOnce_36 : decode c_Mo_dividesOnce 36 = .ok (.laload, 1) := by decide +kernel
theorem d_Mo_dividesOnce_37 : decode c_Mo_dividesOnce 37 = .ok (.lstore 5, 2) := by decide +kernel
theorem d_Mo_dividesOnce_39 : decode c_Mo_dividesOnce 39 = .ok (.aload_n 0, 1) := by decide +kernel
theorem d_Mo_dividesOnce_40 : decode c_Mo_dividesOnce 40 = .ok (.getfield 32, 3) := by decide +kernel
theorem d_Mo_dividesOnce_43 : decode c_Mo_dividesOnce 43 = .ok (.iload 4, 2) := by decide +kernel
theorem d_Mo_dividesOnce_45 : decode c_Mo_dividesOnce 45 = .ok (.laload, 1) := by decide +kernel
theorem d_Mo_dividesOnce_46 : decode c_Mo_dividesOnce 46 = .ok (.lstore 7, 2) := by decide +kernel
theorem d_Mo_dividesOnce_48 : decode c_Mo_dividesOnce 48 = .ok (.aload_n 0, 1) := by decide +kernel
theorem d_Mo_dividesOnce_49 : decode c_Mo_dividesOnce 49 = .ok (.getfield 178, 3) := by decide +kernel
theorem d_Mo_dividesOnce_52 : decode c_Mo_dividesOnce 52 = .ok (.lstore 9, 2) := by decide +kernel
theorem d_Mo_dividesOnce_54 : decode c_Mo_dividesOnce 54 = .ok (.aload_n 0, 1) := by decide +kernel
theorem d_Mo_dividesOnce_55 : decode c_Mo_dividesOnce 55 = .ok (.getfield 181, 3) := by decide +kernel
theorem d_Mo_dividesOnce_58 : decode c_Mo_dividesOnce 58 = .ok (.lstore 11, 2) := by decide +kernel
theorem d_Mo_dividesOnce_60 : decode c_Mo_dividesOnce 60 = .ok (.aload_n 0, 1) := by decide +kernel
theorem d_Mo_dividesOnce_61 : decode c_Mo_dividesOnce 61 = .ok (.lload 9, 2) := by decide +kernel
theorem d_Mo_dividesOnce_63 : decode c_Mo_dividesOnce 63 = .ok (.lload 11, 2) := by decide +kernel
theorem d_Mo_dividesOnce_65 : decode c_Mo_dividesOnce 65 = .ok (.lload 5, 2) := by decide +kernel
theorem d_Mo_dividesOnce_67 : decode c_Mo_dividesOnce 67 = .ok (.lload 7, 2) := by decide +kernel
theorem d_Mo_dividesOnce_69 : decode c_Mo_dividesOnce 69 = .ok (.invokevirtual 195, 3) := by decide +kernel
theorem d_Mo_dividesOnce_72 : decode c_Mo_dividesOnce 72 = .ok (.aload_n 0, 1) := by decide +kernel
theorem d_Mo_dividesOnce_73 : decode c_Mo_dividesOnce 73 = .ok (.getfield 178, 3) := by decide +kernel
theorem d_Mo_dividesOnce_76 : decode c_Mo_dividesOnce 76 = .ok (.lstore 13, 2) := by decide +kernel
theorem d_Mo_dividesOnce_78 : decode c_Mo_dividesOnce 78 = .ok (.aload_n 0, 1) := by decide +kernel
theorem d_Mo_dividesOnce_79 : decode c_Mo_dividesOnce 79 = .ok (.getfield 181, 3) := by decide +kernel
theorem d_Mo_dividesOnce_82 : decode c_Mo_dividesOnce 82 = .ok (.lstore 15, 2) := by decide +kernel
theorem d_Mo_dividesOnce_84 : decode c_Mo_dividesOnce 84 = .ok (.lload 13, 2) := by decide +kernel
theorem d_Mo_dividesOnce_86 : decode c_Mo_dividesOnce 86 = .ok (.lconst 0, 1) := by decide +kernel
theorem d_Mo_dividesOnce_87 : decode c_Mo_dividesOnce 87 = .ok (.lcmp, 1) := by decide +kernel
theorem d_Mo_dividesOnce_88 : decode c_Mo_dividesOnce 88 = .ok (.ifCond .gt 8, 3) := by decide +kernel
theorem d_Mo_dividesOnce_91 : decode c_Mo_dividesOnce 91 = .ok (.bipush (-100), 2) := by decide +kernel
theorem d_Mo_dividesOnce_93 : decode c_Mo_dividesOnce 93 = .ok (.iload_n 3, 1) := by decide +kernel
theorem d_Mo_dividesOnce_94 : decode c_Mo_dividesOnce 94 = .ok (.isub, 1) := by decide +kernel
theorem d_Mo_dividesOnce_95 : decode c_Mo_dividesOnce 95 = .ok (.ireturn, 1) := by decide +kernel
theorem d_Mo_dividesOnce_96 : decode c_Mo_dividesOnce 96 = .ok (.aload_n 0, 1) := by decide +kernel
theorem d_Mo_dividesOnce_97 : decode c_Mo_dividesOnce 97 = .ok (.iload_n 1, 1) := by decide +kernel
theorem d_Mo_dividesOnce_98 : decode c_Mo_dividesOnce 98 = .ok (.ifCond .ne 8, 3) := by decide +kernel
theorem d_Mo_dividesOnce_101 : decode c_Mo_dividesOnce 101 = .ok (.lload 13, 2) := by decide +kernel
theorem d_Mo_dividesOnce_103 : decode c_Mo_dividesOnce 103 = .ok (.goto 5, 3) := by decide +kernel
theorem d_Mo_dividesOnce_106 : decode c_Mo_dividesOnce 106 = .ok (.lload 15, 2) := by decide +kernel
theorem d_Mo_dividesOnce_108 : decode c_Mo_dividesOnce 108 = .ok (.iload_n 1, 1) := by decide +kernel
theorem d_Mo_dividesOnce_109 : decode c_Mo_dividesOnce 109 = .ok (.ifCond .ne 8, 3) := by decide +kernel
theorem d_Mo_dividesOnce_112 : decode c_Mo_dividesOnce 112 = .ok (.lload 15, 2) := by decide +kernel
theorem d_Mo_dividesOnce_114 : decode c_Mo_dividesOnce 114 = .ok (.goto 5, 3) := by decide +kernel
theorem d_Mo_dividesOnce_117 : decode c_Mo_dividesOnce 117 = .ok (.lload 13, 2) := by decide +kernel
theorem d_Mo_dividesOnce_119 : decode c_Mo_dividesOnce 119 = .ok (.invokevirtual 203, 3) := by decide +kernel
theorem d_Mo_dividesOnce_122 : decode c_Mo_dividesOnce 122 = .ok (.aload_n 0, 1) := by decide +kernel
theorem d_Mo_dividesOnce_123 : decode c_Mo_dividesOnce 123 = .ok (.invokevirtual 207, 3) := by decide +kernel
theorem d_Mo_dividesOnce_126 : decode c_Mo_dividesOnce 126 = .ok (.ifCond .ne 6, 3) := by decide +kernel
theorem d_Mo_dividesOnce_129 : decode c_Mo_dividesOnce 129 = .ok (.bipush (-5), 2) := by decide +kernel
theorem d_Mo_dividesOnce_131 : decode c_Mo_dividesOnce 131 = .ok (.ireturn, 1) := by decide +kernel
theorem d_Mo_dividesOnce_132 : decode c_Mo_dividesOnce 132 = .ok (.aload_n 0, 1) := by decide +kernel
theorem d_Mo_dividesOnce_133 : decode c_Mo_dividesOnce 133 = .ok (.iload_n 2, 1) := by decide +kernel
theorem d_Mo_dividesOnce_134 : decode c_Mo_dividesOnce 134 = .ok (.invokevirtual 210, 3) := by decide +kernel
theorem d_Mo_dividesOnce_137 : decode c_Mo_dividesOnce 137 = .ok (.aload_n 0, 1) := by decide +kernel
theorem d_Mo_dividesOnce_138 : decode c_Mo_dividesOnce 138 = .ok (.iload_n 1, 1) := by decide +kernel
theorem d_Mo_dividesOnce_139 : decode c_Mo_dividesOnce 139 = .ok (.ifCond .ne 7, 3) := by decide +kernel
theorem d_Mo_dividesOnce_142 : decode c_Mo_dividesOnce 142 = .ok (.iconst 1, 1) := by decide +kernel
theorem d_Mo_dividesOnce_143 : decode c_Mo_dividesOnce 143 = .ok (.goto 4, 3) := by decide +kernel
theorem d_Mo_dividesOnce_146 : decode c_Mo_dividesOnce 146 = .ok (.iconst 0, 1) := by decide +kernel
theorem d_Mo_dividesOnce_147 : decode c_Mo_dividesOnce 147 = .ok (.iload_n 2, 1) := by decide +kernel
theorem d_Mo_dividesOnce_148 : decode c_Mo_dividesOnce 148 = .ok (.ifCond .ne 7, 3) := by decide +kernel
theorem d_Mo_dividesOnce_151 : decode c_Mo_dividesOnce 151 = .ok (.iconst 1, 1) := by decide +kernel
theorem d_Mo_dividesOnce_152 : decode c_Mo_dividesOnce 152 = .ok (.goto 4, 3) := by decide +kernel
theorem d_Mo_dividesOnce_155 : decode c_Mo_dividesOnce 155 = .ok (.iconst 0, 1) := by decide +kernel
theorem d_Mo_dividesOnce_156 : decode c_Mo_dividesOnce 156 = .ok (.if_icmp .ne 7, 3) := by decide +kernel
theorem d_Mo_dividesOnce_159 : decode c_Mo_dividesOnce 159 = .ok (.iconst 1, 1) := by decide +kernel
theorem d_Mo_dividesOnce_160 : decode c_Mo_dividesOnce 160 = .ok (.goto 4, 3) := by decide +kernel
theorem d_Mo_dividesOnce_163 : decode c_Mo_dividesOnce 163 = .ok (.iconst 3, 1) := by decide +kernel
theorem d_Mo_dividesOnce_164 : decode c_Mo_dividesOnce 164 = .ok (.invokevirtual 214, 3) := by decide +kernel
theorem d_Mo_dividesOnce_167 : decode c_Mo_dividesOnce 167 = .ok (.aload_n 0, 1) := by decide +kernel
theorem d_Mo_dividesOnce_168 : decode c_Mo_dividesOnce 168 = .ok (.dup, 1) := by decide +kernel
theorem d_Mo_dividesOnce_169 : decode c_Mo_dividesOnce 169 = .ok (.getfield 175, 3) := by decide +kernel
theorem d_Mo_dividesOnce_172 : decode c_Mo_dividesOnce 172 = .ok (.iconst 1, 1) := by decide +kernel
theorem d_Mo_dividesOnce_173 : decode c_Mo_dividesOnce 173 = .ok (.iadd, 1) := by decide +kernel
theorem d_Mo_dividesOnce_174 : decode c_Mo_dividesOnce 174 = .ok (.putfield 175, 3) := by decide +kernel
theorem d_Mo_dividesOnce_177 : decode c_Mo_dividesOnce 177 = .ok (.bipush 6, 2) := by decide +kernel
theorem d_Mo_dividesOnce_179 : decode c_Mo_dividesOnce 179 = .ok (.istore 17, 2) := by decide +kernel
theorem d_Mo_dividesOnce_181 : decode c_Mo_dividesOnce 181 = .ok (.iload 17, 2) := by decide +kernel
theorem d_Mo_dividesOnce_183 : decode c_Mo_dividesOnce 183 = .ok (.ifCond .lt 48, 3) := by decide +kernel
theorem d_Mo_dividesOnce_186 : decode c_Mo_dividesOnce 186 = .ok (.aload_n 0, 1) := by decide +kernel
theorem d_Mo_dividesOnce_187 : decode c_Mo_dividesOnce 187 = .ok (.getfield 29, 3) := by decide +kernel
theorem d_Mo_dividesOnce_190 : decode c_Mo_dividesOnce 190 = .ok (.iload 17, 2) := by decide +kernel
theorem d_Mo_dividesOnce_192 : decode c_Mo_dividesOnce 192 = .ok (.lload 7, 2) := by decide +kernel
theorem d_Mo_dividesOnce_194 : decode c_Mo_dividesOnce 194 = .ok (.aload_n 0, 1) := by decide +kernel
theorem d_Mo_dividesOnce_195 : decode c_Mo_dividesOnce 195 = .ok (.getfield 29, 3) := by decide +kernel
theorem d_Mo_dividesOnce_198 : decode c_Mo_dividesOnce 198 = .ok (.iload 17, 2) := by decide +kernel
theorem d_Mo_dividesOnce_200 : decode c_Mo_dividesOnce 200 = .ok (.laload, 1) := by decide +kernel
theorem d_Mo_dividesOnce_201 : decode c_Mo_dividesOnce 201 = .ok (.lmul, 1) := by decide +kernel
theorem d_Mo_dividesOnce_202 : decode c_Mo_dividesOnce 202 = .ok (.iload 17, 2) := by decide +kernel
theorem d_Mo_dividesOnce_204 : decode c_Mo_dividesOnce 204 = .ok (.ifCond .le 18, 3) := by decide +kernel
theorem d_Mo_dividesOnce_207 : decode c_Mo_dividesOnce 207 = .ok (.lload 5, 2) := by decide +kernel
theorem d_Mo_dividesOnce_209 : decode c_Mo_dividesOnce 209 = .ok (.aload_n 0, 1) := by decide +kernel
theorem d_Mo_dividesOnce_210 : decode c_Mo_dividesOnce 210 = .ok (.getfield 32, 3) := by decide +kernel
theorem d_Mo_dividesOnce_213 : decode c_Mo_dividesOnce 213 = .ok (.iload 17, 2) := by decide +kernel
theorem d_Mo_dividesOnce_215 : decode c_Mo_dividesOnce 215 = .ok (.iconst 1, 1) := by decide +kernel
theorem d_Mo_dividesOnce_216 : decode c_Mo_dividesOnce 216 = .ok (.isub, 1) := by decide +kernel
theorem d_Mo_dividesOnce_217 : decode c_Mo_dividesOnce 217 = .ok (.laload, 1) := by decide +kernel
theorem d_Mo_dividesOnce_218 : decode c_Mo_dividesOnce 218 = .ok (.lmul, 1) := by decide +kernel
theorem d_Mo_dividesOnce_219 : decode c_Mo_dividesOnce 219 = .ok (.goto 4, 3) := by decide +kernel
theorem d_Mo_dividesOnce_222 : decode c_Mo_dividesOnce 222 = .ok (.lconst 0, 1) := by decide +kernel
theorem d_Mo_dividesOnce_223 : decode c_Mo_dividesOnce 223 = .ok (.lsub, 1) := by decide +kernel
theorem d_Mo_dividesOnce_224 : decode c_Mo_dividesOnce 224 = .ok (.lastore, 1) := by decide +kernel
theorem d_Mo_dividesOnce_225 : decode c_Mo_dividesOnce 225 = .ok (.iinc 17 (-1), 3) := by decide +kernel
theorem d_Mo_dividesOnce_228 : decode c_Mo_dividesOnce 228 = .ok (.goto (-47), 3) := by decide +kernel
theorem d_Mo_dividesOnce_231 : decode c_Mo_dividesOnce 231 = .ok (.aload_n 0, 1) := by decide +kernel
theorem d_Mo_dividesOnce_232 : decode c_Mo_dividesOnce 232 = .ok (.getfield 29, 3) := by decide +kernel
theorem d_Mo_dividesOnce_235 : decode c_Mo_dividesOnce 235 = .ok (.invokestatic 191, 3) := by decide +kernel
theorem d_Mo_dividesOnce_238 : decode c_Mo_dividesOnce 238 = .ok (.lstore 17, 2) := by decide +kernel
theorem d_Mo_dividesOnce_240 : decode c_Mo_dividesOnce 240 = .ok (.aload_n 0, 1) := by decide +kernel
theorem d_Mo_dividesOnce_241 : decode c_Mo_dividesOnce 241 = .ok (.invokevirtual 188, 3) := by decide +kernel
theorem d_Mo_dividesOnce_244 : decode c_Mo_dividesOnce 244 = .ok (.lload 17, 2) := by decide +kernel
theorem d_Mo_dividesOnce_246 : decode c_Mo_dividesOnce 246 = .ok (.lconst 0, 1) := by decide +kernel
theorem d_Mo_dividesOnce_247 : decode c_Mo_dividesOnce 247 = .ok (.lcmp, 1) := by decide +kernel
theorem d_Mo_dividesOnce_248 : decode c_Mo_dividesOnce 248 = .ok (.ifCond .le 15, 3) := by decide +kernel
theorem d_Mo_dividesOnce_251 : decode c_Mo_dividesOnce 251 = .ok (.aload_n 0, 1) := by decide +kernel
theorem d_Mo_dividesOnce_252 : decode c_Mo_dividesOnce 252 = .ok (.lload 11, 2) := by decide +kernel
theorem d_Mo_dividesOnce_254 : decode c_Mo_dividesOnce 254 = .ok (.lload 9, 2) := by decide +kernel
theorem d_Mo_dividesOnce_256 : decode c_Mo_dividesOnce 256 = .ok (.lload 7, 2) := by decide +kernel
theorem d_Mo_dividesOnce_258 : decode c_Mo_dividesOnce 258 = .ok (.lload 17, 2) := by decide +kernel
theorem d_Mo_dividesOnce_260 : decode c_Mo_dividesOnce 260 = .ok (.invokevirtual 195, 3) := by decide +kernel
theorem d_Mo_dividesOnce_263 : decode c_Mo_dividesOnce 263 = .ok (.iconst 0, 1) := by decide +kernel
theorem d_Mo_dividesOnce_264 : decode c_Mo_dividesOnce 264 = .ok (.ireturn, 1) := by decide +kernel
set_option maxRecDepth 20000 in
theorem w_Mo_dividesOnce_223 {X : HX} {ad : Nat → Nat} {I : HI} {J : HJ} {N : HN} {r : HI × HJ × Int32} {k181 : HI → HJ → Int64 → Int64 → Int64 → Int64 → Int32 → Option (HI × HJ × Int32)} {a0 : Nat} {p1 : Int32} {p2 : Int32} {p3 : Int32} {x5 : Int64} {x7 : Int64} {x9 : Int64} {x11 : Int64} {x17 : Int32} {bs0 : Nat} {s1 : Int32} {s2 : Int64} {s3 : Int64} (C : Cx X c_Mo_dividesOnce RX11 19 (some .int) rm_Mo_dividesOnce) (ha0 : gk Tm nM a0 (0, 11)) (hbs0 : ga Tm nM bs0 2)
    (hk181 : ∀ (I : HI) (J : HJ) (x5 : Int64) (x7 : Int64) (x9 : Int64) (x11 : Int64) (x17 : Int32), k181 I J x5 x7 x9 x11 x17 = some r → G Tm X ad nM 0 0 I J N (gE X Tm ad nM (r.1, r.2.1, N, fun _ => some (.int r.2.2))) 181 19 [(0, .ref (ad a0)), (5, .long x5), (7, .long x7), (9, .long x9), (11, .long x11), (17, .int x17)] [])
    (h : Mo_dividesOnce_223 N a0 p1 p2 p3 k181 I J x5 x7 x9 x11 x17 bs0 s1 s2 s3 = some r) : G Tm X ad nM 0 0 I J N (gE X Tm ad nM (r.1, r.2.1, N, fun _ => some (.int r.2.2))) 223 19 [(0, .ref (ad a0)), (5, .long x5), (7, .long x7), (9, .long x9), (11, .long x11), (17, .int x17)] [.long s3, .long s2, .int s1, .ref (ad bs0)] := by
  refine g_lsub (pc := 223) C d_Mo_dividesOnce_223 ?_
  obtain ⟨hi1, h⟩ := o_gd h
  refine g_last (pc := 224) C hbs0 hi1 d_Mo_dividesOnce_224 ?_
  obtain ⟨J2, eJ2, h⟩ := o_bd h
  rw [← eJ2]
  refine g_iinc (pc := 225) (q := 5) (lv' := [(17, .int (x17 + (-1))), (0, .ref (ad a0)), (5, .long x5), (7, .long x7), (9, .long x9), (11, .long x11)]) C d_Mo_dividesOnce_225 rfl rfl (by decide) rfl ?_
  refine g_goto (pc := 228) C 181 d_Mo_dividesOnce_228 rfl ?_
  refine g_lv [1, 2, 3, 4, 5, 0] rfl ?_
  exact hk181 _ _ _ _ _ _ _ h
set_option maxRecDepth 20000 in
theorem w_Mo_dividesOnce_181b {X : HX} {ad : Nat → Nat} {I : HI} {J : HJ} {N : HN} {r : HI × HJ × Int32} {k181 : HI → HJ → Int64 → Int64 → Int64 → Int64 → Int32 → Option (HI × HJ × Int32)} {a0 : Nat} {p1 : Int32} {p2 : Int32} {p3 : Int32} {x5 : Int64} {x7 : Int64} {x9 : Int64} {x11 : Int64} {x17 : Int32} (C : Cx X c_Mo_dividesOnce RX11 19 (some .int) rm_Mo_dividesOnce) (ha0 : gk Tm nM a0 (0, 11))
    (hk181 : ∀ (I : HI) (J : HJ) (x5 : Int64) (x7 : Int64) (x9 : Int64) (x11 : Int64) (x17 : Int32), k181 I J x5 x7 x9 x11 x17 = some r → G Tm X ad nM 0 0 I J N (gE X Tm ad nM (r.1, r.2.1, N, fun _ => some (.int r.2.2))) 181 19 [(0, .ref (ad a0)), (5, .long x5), (7, .long x7), (9, .long x9), (11, .long x11), (17, .int x17)] [])
    (h : Mo_dividesOnce_181b N a0 p1 p2 p3 k181 I J x5 x7 x9 x11 x17 = some r) : G Tm X ad nM 0 0 I J N (gE X Tm ad nM (r.1, r.2.1, N, fun _ => some (.int r.2.2))) 181 19 [(0, .ref (ad a0)), (5, .long x5), (7, .long x7), (9, .long x9), (11, .long x11), (17, .int x17)] [] := by
  refine g_iload (pc := 181) C d_Mo_dividesOnce_181 5 rfl ?_
  refine g_if_lt (pc := 183) C 231 d_Mo_dividesOnce_183 rfl (fun e1 => ?_) (fun e1 => ?_)
  · have h := o_pos e1 h
    refine g_aload_n (pc := 231) C d_Mo_dividesOnce_231 rfl 0 rfl ?_
    obtain ⟨b2, hnb2, hb2, h⟩ := o_ra h
    refine g_get (pc := 232) (k := 11) (v := va_rf ((N a0 11).map ad)) C gcX11 inX11 (by decide) fl_Mo_29 ha0 rfl d_Mo_dividesOnce_232 ?_
    refine g_top (g_rf hnb2) ?_
    obtain ⟨J3, r4, hc5, h⟩ := o_bn2 h
    refine g_S (pc := 235) (rest := []) C (k_Mo_content (xl X) hb2 hc5) sm_Mo_content ml_Mo_191 st_Mo_content ⟨rfl, rfl, Nat.le_of_ble_eq_true rfl, Nat.le_of_ble_eq_true rfl⟩ ⟨Nat.zero_le _, Nat.zero_le _⟩ rfl rfl (Nat.le_of_ble_eq_true rfl) d_Mo_dividesOnce_235 [.long r4] rfl ?_
    refine g_lstore (pc := 238) (lv' := [(17, .long r4), (0, .ref (ad a0)), (5, .long x5), (7, .long x7), (9, .long x9), (11, .long x11)]) C d_Mo_dividesOnce_238 (by decide) rfl ?_
    refine g_aload_n (pc := 240) C d_Mo_dividesOnce_240 rfl 1 rfl ?_
    obtain ⟨J6, hc7, h⟩ := o_bn1 h
    refine g_V (pc := 241) (rest := []) C (k_Mo_swaps (xl X) ha0 hc7) sm_Mo_swaps ml_Mo_188 im_Mo_swaps se_Mo_swaps gcX11 rfl ha0 ⟨rfl, rfl, Nat.le_of_ble_eq_true rfl, Nat.le_of_ble_eq_true rfl⟩ ⟨Nat.zero_le _, Nat.zero_le _⟩ rfl rfl (Nat.le_of_ble_eq_true rfl) d_Mo_dividesOnce_241 [] rfl ?_
    refine g_lload (pc := 244) C d_Mo_dividesOnce_244 0 rfl ?_
    refine g_lconst (pc := 246) C (0 : Int64) d_Mo_dividesOnce_246 (by decide) ?_
    refine g_lcmp_le (pc := 247) C 263 d_Mo_dividesOnce_247 d_Mo_dividesOnce_248 rfl (fun e8 => ?_) (fun e8 => ?_)
    · have h := o_pos e8 h
      refine g_iconst (pc := 263) C (0 : Int32) d_Mo_dividesOnce_263 (by decide) ?_
      obtain rfl := o_ret h
      exact g_iret (pc := 264) C d_Mo_dividesOnce_264
    · have h := o_neg e8 h
      refine g_aload_n (pc := 251) C d_Mo_dividesOnce_251 rfl 1 rfl ?_
      refine g_lload (pc := 252) C d_Mo_dividesOnce_252 5 rfl ?_
      refine g_lload (pc := 254) C d_Mo_dividesOnce_254 4 rfl ?_
      refine g_lload (pc := 256) C d_Mo_dividesOnce_256 3 rfl ?_
      refine g_lload (pc := 258) C d_Mo_dividesOnce_258 0 rfl ?_
      obtain ⟨J9, hc10, h⟩ := o_bn1 h
      refine g_V (pc := 260) (rest := []) C (k_Mo_scales (xl X) ha0 hc10) sm_Mo_scales ml_Mo_195 im_Mo_scales se_Mo_scales gcX11 rfl ha0 ⟨rfl, rfl, Nat.le_of_ble_eq_true rfl, Nat.le_of_ble_eq_true rfl⟩ ⟨Nat.zero_le _, Nat.zero_le _⟩ rfl rfl (Nat.le_of_ble_eq_true rfl) d_Mo_dividesOnce_260 [] rfl ?_
      refine g_iconst (pc := 263) C (0 : Int32) d_Mo_dividesOnce_263 (by decide) ?_
      obtain rfl := o_ret h
      exact g_iret (pc := 264) C d_Mo_dividesOnce_264
  · have h := o_neg e1 h
    refine g_aload_n (pc := 186) C d_Mo_dividesOnce_186 rfl 0 rfl ?_
    obtain ⟨b11, hnb11, hb11, h⟩ := o_ra h
    refine g_get (pc := 187) (k := 11) (v := va_rf ((N a0 11).map ad)) C gcX11 inX11 (by decide) fl_Mo_29 ha0 rfl d_Mo_dividesOnce_187 ?_
    refine g_top (g_rf hnb11) ?_
    refine g_iload (pc := 190) C d_Mo_dividesOnce_190 5 rfl ?_
    refine g_lload (pc := 192) C d_Mo_dividesOnce_192 2 rfl ?_
    refine g_aload_n (pc := 194) C d_Mo_dividesOnce_194 rfl 0 rfl ?_
    obtain ⟨b12, hnb12, hb12, h⟩ := o_ra h
    refine g_get (pc := 195) (k := 11) (v := va_rf ((N a0 11).map ad)) C gcX11 inX11 (by decide) fl_Mo_29 ha0 rfl d_Mo_dividesOnce_195 ?_
    refine g_top (g_rf hnb12) ?_
    refine g_iload (pc := 198) C d_Mo_dividesOnce_198 5 rfl ?_
    obtain ⟨hi13, h⟩ := o_gd h
    refine g_lald (pc := 200) C hb12 hi13 d_Mo_dividesOnce_200 ?_
    refine g_lmul (pc := 201) C d_Mo_dividesOnce_201 ?_
    refine g_iload (pc := 202) C d_Mo_dividesOnce_202 5 rfl ?_
    refine g_if_le (pc := 204) C 222 d_Mo_dividesOnce_204 rfl (fun e14 => ?_) (fun e14 => ?_)
    · have h := o_pos e14 h
      refine g_lconst (pc := 222) C (0 : Int64) d_Mo_dividesOnce_222 (by decide) ?_
      refine g_lv [0, 1, 2, 3, 4, 5] rfl ?_
      exact w_Mo_dividesOnce_223 C ha0 hb11 hk181 h
    · have h := o_neg e14 h
      refine g_lload (pc := 207) C d_Mo_dividesOnce_207 1 rfl ?_
      refine g_aload_n (pc := 209) C d_Mo_dividesOnce_209 rfl 0 rfl ?_
      obtain ⟨b15, hnb15, hb15, h⟩ := o_ra h
      refine g_get (pc := 210) (k := 12) (v := va_rf ((N a0 12).map ad)) C gcX11 inX11 (by decide) fl_Mo_32 ha0 rfl d_Mo_dividesOnce_210 ?_
      refine g_top (g_rf hnb15) ?_
      refine g_iload (pc := 213) C d_Mo_dividesOnce_213 5 rfl ?_
      refine g_iconst (pc := 215) C (1 : Int32) d_Mo_dividesOnce_215 (by decide) ?_
      refine g_isub (pc := 216) C d_Mo_dividesOnce_216 ?_
      obtain ⟨hi16, h⟩ := o_gd h
      refine g_lald (pc := 217) C hb15 hi16 d_Mo_dividesOnce_217 ?_
      refine g_lmul (pc := 218) C d_Mo_dividesOnce_218 ?_
      refine g_goto (pc := 219) C 223 d_Mo_dividesOnce_219 rfl ?_
      refine g_lv [0, 1, 2, 3, 4, 5] rfl ?_
      exact w_Mo_dividesOnce_223 C ha0 hb11 hk181 h
set_option maxRecDepth 20000 in
theorem w_Mo_dividesOnce_181 {X : HX} {ad : Nat → Nat} {N : HN} {r : HI × HJ × Int32} {a0 : Nat} {p1 : Int32} {p2 : Int32} {p3 : Int32} (C : Cx X c_Mo_dividesOnce RX11 19 (some .int) rm_Mo_dividesOnce) (ha0 : gk Tm nM a0 (0, 11)) : ∀ (n : Nat) (I : HI) (J : HJ) (x5 : Int64) (x7 : Int64) (x9 : Int64) (x11 : Int64) (x17 : Int32), Mo_dividesOnce_181 N a0 p1 p2 p3 n I J x5 x7 x9 x11 x17 = some r → G Tm X ad nM 0 0 I J N (gE X Tm ad nM (r.1, r.2.1, N, fun _ => some (.int r.2.2))) 181 19 [(0, .ref (ad a0)), (5, .long x5), (7, .long x7), (9, .long x9), (11, .long x11), (17, .int x17)] [] := by
  intro n
  induction n with
  | zero => intro I J x5 x7 x9 x11 x17 h; cases h
  | succ n ih => intro I J x5 x7 x9 x11 x17 h; exact w_Mo_dividesOnce_181b C ha0 ih h
set_option maxRecDepth 20000 in
theorem w_Mo_dividesOnce_164 {X : HX} {ad : Nat → Nat} {I : HI} {J : HJ} {N : HN} {r : HI × HJ × Int32} {a0 : Nat} {p1 : Int32} {p2 : Int32} {p3 : Int32} {x5 : Int64} {x7 : Int64} {x9 : Int64} {x11 : Int64} {bs0 : Nat} {s1 : Int32} (C : Cx X c_Mo_dividesOnce RX11 19 (some .int) rm_Mo_dividesOnce) (ha0 : gk Tm nM a0 (0, 11)) (hbs0 : gk Tm nM bs0 (0, 11))
    (h : Mo_dividesOnce_164 N a0 p1 p2 p3 I J x5 x7 x9 x11 bs0 s1 = some r) : G Tm X ad nM 0 0 I J N (gE X Tm ad nM (r.1, r.2.1, N, fun _ => some (.int r.2.2))) 164 19 [(0, .ref (ad a0)), (5, .long x5), (7, .long x7), (9, .long x9), (11, .long x11)] [.int s1, .ref (ad bs0)] := by
  obtain ⟨I1, hc2, h⟩ := o_bn1 h
  refine g_V (pc := 164) (rest := []) C (k_Mo_lays (xl X) hbs0 hc2) sm_Mo_lays ml_Mo_214 im_Mo_lays se_Mo_lays gcX11 rfl hbs0 ⟨rfl, rfl, Nat.le_of_ble_eq_true rfl, Nat.le_of_ble_eq_true rfl⟩ ⟨Nat.zero_le _, Nat.zero_le _⟩ rfl rfl (Nat.le_of_ble_eq_true rfl) d_Mo_dividesOnce_164 [] rfl ?_
  refine g_aload_n (pc := 167) C d_Mo_dividesOnce_167 rfl 0 rfl ?_
  refine g_dup (pc := 168) C d_Mo_dividesOnce_168 rfl ?_
  refine g_get (pc := 169) (k := 8) (v := .int (I1 a0 8)) C gcX11 inX11 (by decide) fl_Mo_175 ha0 rfl d_Mo_dividesOnce_169 ?_
  refine g_iconst (pc := 172) C (1 : Int32) d_Mo_dividesOnce_172 (by decide) ?_
  refine g_iadd (pc := 173) C d_Mo_dividesOnce_173 ?_
  refine g_put (pc := 174) (I' := up2 I1 a0 8 ((I1 a0 8) + (1 : Int32))) (J' := J) (N' := N) (k := 8) C gcX11 inX11 tyX11_ok nmX11 (by decide) fl_Mo_175 rfl ha0 (tyX11_ok 8 (by decide)) rfl rfl (Nat.le_of_ble_eq_true rfl) gs_11_8 (fun b hb => up2_of hb) (fun _ _ => rfl) (fun _ _ => rfl) d_Mo_dividesOnce_174 ?_
  obtain ⟨I3, eI3, h⟩ := o_bd h
  rw [← eI3]
  refine g_bipush (pc := 177) C (6 : Int32) d_Mo_dividesOnce_177 (by decide) ?_
  refine g_istore (pc := 179) (lv' := [(17, .int (6 : Int32)), (0, .ref (ad a0)), (5, .long x5), (7, .long x7), (9, .long x9), (11, .long x11)]) C d_Mo_dividesOnce_179 (by decide) rfl ?_
  refine g_lv [1, 2, 3, 4, 5, 0] rfl ?_
  exact w_Mo_dividesOnce_181 C ha0 _ _ _ _ _ _ _ _ h
set_option maxRecDepth 20000 in
theorem w_Mo_dividesOnce_156 {X : HX} {ad : Nat → Nat} {I : HI} {J : HJ} {N : HN} {r : HI × HJ × Int32} {a0 : Nat} {p1 : Int32} {p2 : Int32} {p3 : Int32} {x5 : Int64} {x7 : Int64} {x9 : Int64} {x11 : Int64} {bs0 : Nat} {s1 : Int32} {s2 : Int32} (C : Cx X c_Mo_dividesOnce RX11 19 (some .int) rm_Mo_dividesOnce) (ha0 : gk Tm nM a0 (0, 11)) (hbs0 : gk Tm nM bs0 (0, 11))
    (h : Mo_dividesOnce_156 N a0 p1 p2 p3 I J x5 x7 x9 x11 bs0 s1 s2 = some r) : G Tm X ad nM 0 0 I J N (gE X Tm ad nM (r.1, r.2.1, N, fun _ => some (.int r.2.2))) 156 19 [(0, .ref (ad a0)), (5, .long x5), (7, .long x7), (9, .long x9), (11, .long x11)] [.int s2, .int s1, .ref (ad bs0)] := by
  refine g_icmp_ne (pc := 156) C 163 d_Mo_dividesOnce_156 rfl (fun e1 => ?_) (fun e1 => ?_)
  · have h := o_neg e1 h
    refine g_iconst (pc := 163) C (3 : Int32) d_Mo_dividesOnce_163 (by decide) ?_
    refine g_lv [0, 1, 2, 3, 4] rfl ?_
    exact w_Mo_dividesOnce_164 C ha0 hbs0 h
  · have h := o_pos e1 h
    refine g_iconst (pc := 159) C (1 : Int32) d_Mo_dividesOnce_159 (by decide) ?_
    refine g_goto (pc := 160) C 164 d_Mo_dividesOnce_160 rfl ?_
    refine g_lv [0, 1, 2, 3, 4] rfl ?_
    exact w_Mo_dividesOnce_164 C ha0 hbs0 h
set_option maxRecDepth 20000 in
theorem w_Mo_dividesOnce_147 {X : HX} {ad : Nat → Nat} {I : HI} {J : HJ} {N : HN} {r : HI × HJ × Int32} {a0 : Nat} {p1 : Int32} {p2 : Int32} {p3 : Int32} {x5 : Int64} {x7 : Int64} {x9 : Int64} {x11 : Int64} {bs0 : Nat} {s1 : Int32} (C : Cx X c_Mo_dividesOnce RX11 19 (some .int) rm_Mo_dividesOnce) (ha0 : gk Tm nM a0 (0, 11)) (hbs0 : gk Tm nM bs0 (0, 11))
    (h : Mo_dividesOnce_147 N a0 p1 p2 p3 I J x5 x7 x9 x11 bs0 s1 = some r) : G Tm X ad nM 0 0 I J N (gE X Tm ad nM (r.1, r.2.1, N, fun _ => some (.int r.2.2))) 147 19 [(0, .ref (ad a0)), (2, .int p2), (5, .long x5), (7, .long x7), (9, .long x9), (11, .long x11)] [.int s1, .ref (ad bs0)] := by
  refine g_iload_n (pc := 147) C d_Mo_dividesOnce_147 rfl 1 rfl ?_
  refine g_if_ne (pc := 148) C 155 d_Mo_dividesOnce_148 rfl (fun e1 => ?_) (fun e1 => ?_)
  · have h := o_neg e1 h
    refine g_iconst (pc := 155) C (0 : Int32) d_Mo_dividesOnce_155 (by decide) ?_
    refine g_lv [0, 2, 3, 4, 5] rfl ?_
    exact w_Mo_dividesOnce_156 C ha0 hbs0 h
  · have h := o_pos e1 h
    refine g_iconst (pc := 151) C (1 : Int32) d_Mo_dividesOnce_151 (by decide) ?_
    refine g_goto (pc := 152) C 156 d_Mo_dividesOnce_152 rfl ?_
    refine g_lv [0, 2, 3, 4, 5] rfl ?_
    exact w_Mo_dividesOnce_156 C ha0 hbs0 h
set_option maxRecDepth 20000 in
theorem w_Mo_dividesOnce_119 {X : HX} {ad : Nat → Nat} {I : HI} {J : HJ} {N : HN} {r : HI × HJ × Int32} {a0 : Nat} {p1 : Int32} {p2 : Int32} {p3 : Int32} {x5 : Int64} {x7 : Int64} {x9 : Int64} {x11 : Int64} {bs0 : Nat} {s1 : Int64} {s2 : Int64} (C : Cx X c_Mo_dividesOnce RX11 19 (some .int) rm_Mo_dividesOnce) (ha0 : gk Tm nM a0 (0, 11)) (hbs0 : gk Tm nM bs0 (0, 11))
    (h : Mo_dividesOnce_119 N a0 p1 p2 p3 I J x5 x7 x9 x11 bs0 s1 s2 = some r) : G Tm X ad nM 0 0 I J N (gE X Tm ad nM (r.1, r.2.1, N, fun _ => some (.int r.2.2))) 119 19 [(0, .ref (ad a0)), (1, .int p1), (2, .int p2), (5, .long x5), (7, .long x7), (9, .long x9), (11, .long x11)] [.long s2, .long s1, .ref (ad bs0)] := by
  obtain ⟨J1, hc2, h⟩ := o_bn1 h
  refine g_V (pc := 119) (rest := []) C (k_Mo_takes (xl X) hbs0 hc2) sm_Mo_takes ml_Mo_203 im_Mo_takes se_Mo_takes gcX11 rfl hbs0 ⟨rfl, rfl, Nat.le_of_ble_eq_true rfl, Nat.le_of_ble_eq_true rfl⟩ ⟨Nat.zero_le _, Nat.zero_le _⟩ rfl rfl (Nat.le_of_ble_eq_true rfl) d_Mo_dividesOnce_119 [] rfl ?_
  refine g_aload_n (pc := 122) C d_Mo_dividesOnce_122 rfl 0 rfl ?_
  obtain ⟨r3, hc4, h⟩ := o_bn1 h
  refine g_V (pc := 123) (rest := []) C (k_Mo_isHandy (xl X) ha0 hc4) sm_Mo_isHandy ml_Mo_207 im_Mo_isHandy se_Mo_isHandy gcX11 rfl ha0 ⟨rfl, rfl, Nat.le_of_ble_eq_true rfl, Nat.le_of_ble_eq_true rfl⟩ ⟨Nat.zero_le _, Nat.zero_le _⟩ rfl rfl (Nat.le_of_ble_eq_true rfl) d_Mo_dividesOnce_123 [.int r3] rfl ?_
  refine g_if_ne (pc := 126) C 132 d_Mo_dividesOnce_126 rfl (fun e5 => ?_) (fun e5 => ?_)
  · have h := o_neg e5 h
    refine g_aload_n (pc := 132) C d_Mo_dividesOnce_132 rfl 0 rfl ?_
    refine g_iload_n (pc := 133) C d_Mo_dividesOnce_133 rfl 2 rfl ?_
    obtain ⟨I6, hc7, h⟩ := o_bn1 h
    refine g_V (pc := 134) (rest := []) C (k_Mo_makes (xl X) ha0 hc7) sm_Mo_makes ml_Mo_210 im_Mo_makes se_Mo_makes gcX11 rfl ha0 ⟨rfl, rfl, Nat.le_of_ble_eq_true rfl, Nat.le_of_ble_eq_true rfl⟩ ⟨Nat.zero_le _, Nat.zero_le _⟩ rfl rfl (Nat.le_of_ble_eq_true rfl) d_Mo_dividesOnce_134 [] rfl ?_
    refine g_aload_n (pc := 137) C d_Mo_dividesOnce_137 rfl 0 rfl ?_
    refine g_iload_n (pc := 138) C d_Mo_dividesOnce_138 rfl 1 rfl ?_
    refine g_if_ne (pc := 139) C 146 d_Mo_dividesOnce_139 rfl (fun e8 => ?_) (fun e8 => ?_)
    · have h := o_neg e8 h
      refine g_iconst (pc := 146) C (0 : Int32) d_Mo_dividesOnce_146 (by decide) ?_
      refine g_lv [0, 2, 3, 4, 5, 6] rfl ?_
      exact w_Mo_dividesOnce_147 C ha0 ha0 h
    · have h := o_pos e8 h
      refine g_iconst (pc := 142) C (1 : Int32) d_Mo_dividesOnce_142 (by decide) ?_
      refine g_goto (pc := 143) C 147 d_Mo_dividesOnce_143 rfl ?_
      refine g_lv [0, 2, 3, 4, 5, 6] rfl ?_
      exact w_Mo_dividesOnce_147 C ha0 ha0 h
  · have h := o_pos e5 h
    refine g_bipush (pc := 129) C (-5 : Int32) d_Mo_dividesOnce_129 (by decide) ?_
    obtain rfl := o_ret h
    exact g_iret (pc := 131) C d_Mo_dividesOnce_131
set_option maxRecDepth 20000 in
theorem w_Mo_dividesOnce_108 {X : HX} {ad : Nat → Nat} {I : HI} {J : HJ} {N : HN} {r : HI × HJ × Int32} {a0 : Nat} {p1 : Int32} {p2 : Int32} {p3 : Int32} {x5 : Int64} {x7 : Int64} {x9 : Int64} {x11 : Int64} {x13 : Int64} {x15 : Int64} {bs0 : Nat} {s1 : Int64} (C : Cx X c_Mo_dividesOnce RX11 19 (some .int) rm_Mo_dividesOnce) (ha0 : gk Tm nM a0 (0, 11)) (hbs0 : gk Tm nM bs0 (0, 11))
    (h : Mo_dividesOnce_108 N a0 p1 p2 p3 I J x5 x7 x9 x11 x13 x15 bs0 s1 = some r) : G Tm X ad nM 0 0 I J N (gE X Tm ad nM (r.1, r.2.1, N, fun _ => some (.int r.2.2))) 108 19 [(0, .ref (ad a0)), (1, .int p1), (2, .int p2), (5, .long x5), (7, .long x7), (9, .long x9), (11, .long x11), (13, .long x13), (15, .long x15)] [.long s1, .ref (ad bs0)] := by
  refine g_iload_n (pc := 108) C d_Mo_dividesOnce_108 rfl 1 rfl ?_
  refine g_if_ne (pc := 109) C 117 d_Mo_dividesOnce_109 rfl (fun e1 => ?_) (fun e1 => ?_)
  · have h := o_neg e1 h
    refine g_lload (pc := 117) C d_Mo_dividesOnce_117 7 rfl ?_
    refine g_lv [0, 1, 2, 3, 4, 5, 6] rfl ?_
    exact w_Mo_dividesOnce_119 C ha0 hbs0 h
  · have h := o_pos e1 h
    refine g_lload (pc := 112) C d_Mo_dividesOnce_112 8 rfl ?_
    refine g_goto (pc := 114) C 119 d_Mo_dividesOnce_114 rfl ?_
    refine g_lv [0, 1, 2, 3, 4, 5, 6] rfl ?_
    exact w_Mo_dividesOnce_119 C ha0 hbs0 h
set_option maxRecDepth 20000 in
theorem w_Mo_dividesOnce_0 {X : HX} {ad : Nat → Nat} {I : HI} {J : HJ} {N : HN} {r : HI × HJ × Int32} {a0 : Nat} {p1 : Int32} {p2 : Int32} {p3 : Int32} (C : Cx X c_Mo_dividesOnce RX11 19 (some .int) rm_Mo_dividesOnce) (ha0 : gk Tm nM a0 (0, 11))
    (h : Mo_dividesOnce_0 N a0 p1 p2 p3 I J = some r) : G Tm X ad nM 0 0 I J N (gE X Tm ad nM (r.1, r.2.1, N, fun _ => some (.int r.2.2))) 0 19 [(0, .ref (ad a0)), (1, .int p1), (2, .int p2), (3, .int p3)] [] := by
  refine g_aload_n (pc := 0) C d_Mo_dividesOnce_0 rfl 0 rfl ?_
  obtain ⟨b1, hnb1, hb1, h⟩ := o_ra h
  refine g_get (pc := 1) (k := 12) (v := va_rf ((N a0 12).map ad)) C gcX11 inX11 (by decide) fl_Mo_32 ha0 rfl d_Mo_dividesOnce_1 ?_
  refine g_top (g_rf hnb1) ?_
  obtain ⟨r2, hc3, h⟩ := o_bn1 h
  refine g_S (pc := 4) (rest := []) C (k_Mo_top (xl X) hb1 hc3) sm_Mo_top ml_Mo_184 st_Mo_top ⟨rfl, rfl, Nat.le_of_ble_eq_true rfl, Nat.le_of_ble_eq_true rfl⟩ ⟨Nat.zero_le _, Nat.zero_le _⟩ rfl rfl (Nat.le_of_ble_eq_true rfl) d_Mo_dividesOnce_4 [.int r2] rfl ?_
  refine g_istore (pc := 7) (lv' := [(4, .int r2), (0, .ref (ad a0)), (1, .int p1), (2, .int p2), (3, .int p3)]) C d_Mo_dividesOnce_7 (by decide) rfl ?_
  refine g_aload_n (pc := 9) C d_Mo_dividesOnce_9 rfl 1 rfl ?_
  obtain ⟨b4, hnb4, hb4, h⟩ := o_ra h
  refine g_get (pc := 10) (k := 11) (v := va_rf ((N a0 11).map ad)) C gcX11 inX11 (by decide) fl_Mo_29 ha0 rfl d_Mo_dividesOnce_10 ?_
  refine g_top (g_rf hnb4) ?_
  obtain ⟨r5, hc6, h⟩ := o_bn1 h
  refine g_S (pc := 13) (rest := []) C (k_Mo_top (xl X) hb4 hc6) sm_Mo_top ml_Mo_184 st_Mo_top ⟨rfl, rfl, Nat.le_of_ble_eq_true rfl, Nat.le_of_ble_eq_true rfl⟩ ⟨Nat.zero_le _, Nat.zero_le _⟩ rfl rfl (Nat.le_of_ble_eq_true rfl) d_Mo_dividesOnce_13 [.int r5] rfl ?_
  refine g_iload (pc := 16) C d_Mo_dividesOnce_16 0 rfl ?_
  refine g_iconst (pc := 18) C (1 : Int32) d_Mo_dividesOnce_18 (by decide) ?_
  refine g_iadd (pc := 19) C d_Mo_dividesOnce_19 ?_
  refine g_icmp_eq (pc := 20) C 28 d_Mo_dividesOnce_20 rfl (fun e7 => ?_) (fun e7 => ?_)
  · have h := o_pos e7 h
    refine g_aload_n (pc := 28) C d_Mo_dividesOnce_28 rfl 1 rfl ?_
    obtain ⟨b8, hnb8, hb8, h⟩ := o_ra h
    refine g_get (pc := 29) (k := 11) (v := va_rf ((N a0 11).map ad)) C gcX11 inX11 (by decide) fl_Mo_29 ha0 rfl d_Mo_dividesOnce_29 ?_
    refine g_top (g_rf hnb8) ?_
    refine g_iload (pc := 32) C d_Mo_dividesOnce_32 0 rfl ?_
    refine g_iconst (pc := 34) C (1 : Int32) d_Mo_dividesOnce_34 (by decide) ?_
    refine g_iadd (pc := 35) C d_Mo_dividesOnce_35 ?_
    obtain ⟨hi9, h⟩ := o_gd h
    refine g_lald (pc := 36) C hb8 hi9 d_Mo_dividesOnce_36 ?_
    obtain ⟨v10, ev10, h⟩ := o_bd h
    refine g_topl ev10 ?_
    refine g_lstore (pc := 37) (lv' := [(5, .long v10), (4, .int r2), (0, .ref (ad a0)), (1, .int p1), (2, .int p2), (3, .int p3)]) C d_Mo_dividesOnce_37 (by decide) rfl ?_
    refine g_aload_n (pc := 39) C d_Mo_dividesOnce_39 rfl 2 rfl ?_
    obtain ⟨b11, hnb11, hb11, h⟩ := o_ra h
    refine g_get (pc := 40) (k := 12) (v := va_rf ((N a0 12).map ad)) C gcX11 inX11 (by decide) fl_Mo_32 ha0 rfl d_Mo_dividesOnce_40 ?_
    refine g_top (g_rf hnb11) ?_
    refine g_iload (pc := 43) C d_Mo_dividesOnce_43 1 rfl ?_
    obtain ⟨hi12, h⟩ := o_gd h
    refine g_lald (pc := 45) C hb11 hi12 d_Mo_dividesOnce_45 ?_
    obtain ⟨v13, ev13, h⟩ := o_bd h
    refine g_topl ev13 ?_
    refine g_lstore (pc := 46) (lv' := [(7, .long v13), (5, .long v10), (4, .int r2), (0, .ref (ad a0)), (1, .int p1), (2, .int p2), (3, .int p3)]) C d_Mo_dividesOnce_46 (by decide) rfl ?_
    refine g_aload_n (pc := 48) C d_Mo_dividesOnce_48 rfl 3 rfl ?_
    refine g_get (pc := 49) (k := 13) (v := .long (J a0 13)) C gcX11 inX11 (by decide) fl_Mo_178 ha0 rfl d_Mo_dividesOnce_49 ?_
    obtain ⟨v14, ev14, h⟩ := o_bd h
    refine g_topl ev14 ?_
    refine g_lstore (pc := 52) (lv' := [(9, .long v14), (7, .long v13), (5, .long v10), (4, .int r2), (0, .ref (ad a0)), (1, .int p1), (2, .int p2), (3, .int p3)]) C d_Mo_dividesOnce_52 (by decide) rfl ?_
    refine g_aload_n (pc := 54) C d_Mo_dividesOnce_54 rfl 4 rfl ?_
    refine g_get (pc := 55) (k := 14) (v := .long (J a0 14)) C gcX11 inX11 (by decide) fl_Mo_181 ha0 rfl d_Mo_dividesOnce_55 ?_
    obtain ⟨v15, ev15, h⟩ := o_bd h
    refine g_topl ev15 ?_
    refine g_lstore (pc := 58) (lv' := [(11, .long v15), (9, .long v14), (7, .long v13), (5, .long v10), (4, .int r2), (0, .ref (ad a0)), (1, .int p1), (2, .int p2), (3, .int p3)]) C d_Mo_dividesOnce_58 (by decide) rfl ?_
    refine g_aload_n (pc := 60) C d_Mo_dividesOnce_60 rfl 5 rfl ?_
    refine g_lload (pc := 61) C d_Mo_dividesOnce_61 1 rfl ?_
    refine g_lload (pc := 63) C d_Mo_dividesOnce_63 0 rfl ?_
    refine g_lload (pc := 65) C d_Mo_dividesOnce_65 3 rfl ?_
    refine g_lload (pc := 67) C d_Mo_dividesOnce_67 2 rfl ?_
    obtain ⟨J16, hc17, h⟩ := o_bn1 h
    refine g_V (pc := 69) (rest := []) C (k_Mo_scales (xl X) ha0 hc17) sm_Mo_scales ml_Mo_195 im_Mo_scales se_Mo_scales gcX11 rfl ha0 ⟨rfl, rfl, Nat.le_of_ble_eq_true rfl, Nat.le_of_ble_eq_true rfl⟩ ⟨Nat.zero_le _, Nat.zero_le _⟩ rfl rfl (Nat.le_of_ble_eq_true rfl) d_Mo_dividesOnce_69 [] rfl ?_
    refine g_aload_n (pc := 72) C d_Mo_dividesOnce_72 rfl 5 rfl ?_
    refine g_get (pc := 73) (k := 13) (v := .long (J16 a0 13)) C gcX11 inX11 (by decide) fl_Mo_178 ha0 rfl d_Mo_dividesOnce_73 ?_
    obtain ⟨v18, ev18, h⟩ := o_bd h
    refine g_topl ev18 ?_
    refine g_lstore (pc := 76) (lv' := [(13, .long v18), (11, .long v15), (9, .long v14), (7, .long v13), (5, .long v10), (4, .int r2), (0, .ref (ad a0)), (1, .int p1), (2, .int p2), (3, .int p3)]) C d_Mo_dividesOnce_76 (by decide) rfl ?_
    refine g_aload_n (pc := 78) C d_Mo_dividesOnce_78 rfl 6 rfl ?_
    refine g_get (pc := 79) (k := 14) (v := .long (J16 a0 14)) C gcX11 inX11 (by decide) fl_Mo_181 ha0 rfl d_Mo_dividesOnce_79 ?_
    obtain ⟨v19, ev19, h⟩ := o_bd h
    refine g_topl ev19 ?_
    refine g_lstore (pc := 82) (lv' := [(15, .long v19), (13, .long v18), (11, .long v15), (9, .long v14), (7, .long v13), (5, .long v10), (4, .int r2), (0, .ref (ad a0)), (1, .int p1), (2, .int p2), (3, .int p3)]) C d_Mo_dividesOnce_82 (by decide) rfl ?_
    refine g_lload (pc := 84) C d_Mo_dividesOnce_84 1 rfl ?_
    refine g_lconst (pc := 86) C (0 : Int64) d_Mo_dividesOnce_86 (by decide) ?_
    refine g_lcmp_gt (pc := 87) C 96 d_Mo_dividesOnce_87 d_Mo_dividesOnce_88 rfl (fun e20 => ?_) (fun e20 => ?_)
    · have h := o_pos e20 h
      refine g_aload_n (pc := 96) C d_Mo_dividesOnce_96 rfl 7 rfl ?_
      refine g_iload_n (pc := 97) C d_Mo_dividesOnce_97 rfl 8 rfl ?_
      refine g_if_ne (pc := 98) C 106 d_Mo_dividesOnce_98 rfl (fun e21 => ?_) (fun e21 => ?_)
      · have h := o_neg e21 h
        refine g_lload (pc := 106) C d_Mo_dividesOnce_106 0 rfl ?_
        refine g_lv [7, 8, 9, 5, 4, 3, 2, 1, 0] rfl ?_
        exact w_Mo_dividesOnce_108 C ha0 ha0 h
      · have h := o_pos e21 h
        refine g_lload (pc := 101) C d_Mo_dividesOnce_101 1 rfl ?_
        refine g_goto (pc := 103) C 108 d_Mo_dividesOnce_103 rfl ?_
        refine g_lv [7, 8, 9, 5, 4, 3, 2, 1, 0] rfl ?_
        exact w_Mo_dividesOnce_108 C ha0 ha0 h
    · have h := o_neg e20 h
      refine g_bipush (pc := 91) C (-100 : Int32) d_Mo_dividesOnce_91 (by decide) ?_
      refine g_iload_n (pc := 93) C d_Mo_dividesOnce_93 rfl 10 rfl ?_
      refine g_isub (pc := 94) C d_Mo_dividesOnce_94 ?_
      obtain rfl := o_ret h
      exact g_iret (pc := 95) C d_Mo_dividesOnce_95
  · have h := o_neg e7 h
    refine g_bipush (pc := 23) C (-100 : Int32) d_Mo_dividesOnce_23 (by decide) ?_
    refine g_iload_n (pc := 25) C d_Mo_dividesOnce_25 rfl 4 rfl ?_
    refine g_isub (pc := 26) C d_Mo_dividesOnce_26 ?_
    obtain rfl := o_ret h
    exact g_iret (pc := 27) C d_Mo_dividesOnce_27
set_option maxRecDepth 20000 in
theorem k_Mo_dividesOnce (l : Launch) {I : HI} {J : HJ} {N : HN} {a0 : Nat} {p1 : Int32} {p2 : Int32} {p3 : Int32} {r : HI × HJ × Int32} (ha0 : gk Tm nM a0 (0, 11)) (h : Mo_dividesOnce N a0 p1 p2 p3 I J = some r) : gM l y_Mo_dividesOnce c_Mo_dividesOnce 19 (some .int) rm_Mo_dividesOnce Tm nM I J N (fun ad => [.ref (ad a0), .int p1, .int p2, .int p3]) (r.1, r.2.1, N, fun _ => some (.int r.2.2)) :=
  g_meth (lv := fun ad => [(0, .ref (ad a0)), (1, .int p1), (2, .int p2), (3, .int p3)]) (by decide) (fun _ => Nat.le_of_ble_eq_true rfl) (fun _ => rfl) (fun X ad C => g_lv [0, 1, 2, 3] rfl (w_Mo_dividesOnce_0 C ha0 h))
