theorem d_Lm_digestOfRows_0 : decode c_Lm_digestOfRows 0 = .ok (.lload_n 1, 1) := by decide +kernel
theorem d_Lm_digestOfRows_1 : decode c_Lm_digestOfRows 1 = .ok (.lstore_n 3, 1) := by decide +kernel
theorem d_Lm_digestOfRows_2 : decode c_Lm_digestOfRows 2 = .ok (.iconst 0, 1) := by decide +kernel
theorem d_Lm_digestOfRows_3 : decode c_Lm_digestOfRows 3 = .ok (.istore 5, 2) := by decide +kernel
theorem d_Lm_digestOfRows_5 : decode c_Lm_digestOfRows 5 = .ok (.iload 5, 2) := by decide +kernel
theorem d_Lm_digestOfRows_7 : decode c_Lm_digestOfRows 7 = .ok (.aload_n 0, 1) := by decide +kernel
theorem d_Lm_digestOfRows_8 : decode c_Lm_digestOfRows 8 = .ok (.getfield 19, 3) := by decide +kernel
theorem d_Lm_digestOfRows_11 : decode c_Lm_digestOfRows 11 = .ok (.getfield 161, 3) := by decide +kernel
theorem d_Lm_digestOfRows_14 : decode c_Lm_digestOfRows 14 = .ok (.if_icmp .ge 40, 3) := by decide +kernel
theorem d_Lm_digestOfRows_17 : decode c_Lm_digestOfRows 17 = .ok (.iconst 0, 1) := by decide +kernel
theorem d_Lm_digestOfRows_18 : decode c_Lm_digestOfRows 18 = .ok (.istore 6, 2) := by decide +kernel
theorem d_Lm_digestOfRows_20 : decode c_Lm_digestOfRows 20 = .ok (.iload 6, 2) := by decide +kernel
theorem d_Lm_digestOfRows_22 : decode c_Lm_digestOfRows 22 = .ok (.iconst 5, 1) := by decide +kernel
theorem d_Lm_digestOfRows_23 : decode c_Lm_digestOfRows 23 = .ok (.if_icmp .ge 25, 3) := by decide +kernel
theorem d_Lm_digestOfRows_26 : decode c_Lm_digestOfRows 26 = .ok (.ldc2_w 267, 3) := by decide +kernel
theorem d_Lm_digestOfRows_29 : decode c_Lm_digestOfRows 29 = .ok (.lload_n 3, 1) := by decide +kernel
theorem d_Lm_digestOfRows_30 : decode c_Lm_digestOfRows 30 = .ok (.lmul, 1) := by decide +kernel
theorem d_Lm_digestOfRows_31 : decode c_Lm_digestOfRows 31 = .ok (.aload_n 0, 1) := by decide +kernel
theorem d_Lm_digestOfRows_32 : decode c_Lm_digestOfRows 32 = .ok (.iload 5, 2) := by decide +kernel
theorem d_Lm_digestOfRows_34 : decode c_Lm_digestOfRows 34 = .ok (.iload 6, 2) := by decide +kernel
theorem d_Lm_digestOfRows_36 : decode c_Lm_digestOfRows 36 = .ok (.invokevirtual 289, 3) := by decide +kernel
theorem d_Lm_digestOfRows_39 : decode c_Lm_digestOfRows 39 = .ok (.i2l, 1) := by decide +kernel
theorem d_Lm_digestOfRows_40 : decode c_Lm_digestOfRows 40 = .ok (.ladd, 1) := by decide +kernel
theorem d_Lm_digestOfRows_41 : decode c_Lm_digestOfRows 41 = .ok (.lstore_n 3, 1) := by decide +kernel
theorem d_Lm_digestOfRows_42 : decode c_Lm_digestOfRows 42 = .ok (.iinc 6 1, 3) := by decide +kernel
theorem d_Lm_digestOfRows_45 : decode c_Lm_digestOfRows 45 = .ok (.goto (-25), 3) := by decide +kernel
theorem d_Lm_digestOfRows_48 : decode c_Lm_digestOfRows 48 = .ok (.iinc 5 1, 3) := by decide +kernel
theorem d_Lm_digestOfRows_51 : decode c_Lm_digestOfRows 51 = .ok (.goto (-46), 3) := by decide +kernel
theorem d_Lm_digestOfRows_54 : decode c_Lm_digestOfRows 54 = .ok (.iconst 0, 1) := by decide +kernel
theorem d_Lm_digestOfRows_55 : decode c_Lm_digestOfRows 55 = .ok (.istore 5, 2) := by decide +kernel
theorem d_Lm_digestOfRows_57 : decode c_Lm_digestOfRows 57 = .ok (.iload 5, 2) := by decide +kernel
theorem d_Lm_digestOfRows_59 : decode c_Lm_digestOfRows 59 = .ok (.aload_n 0, 1) := by decide +kernel
theorem d_Lm_digestOfRows_60 : decode c_Lm_digestOfRows 60 = .ok (.getfield 40, 3) := by decide +kernel
theorem d_Lm_digestOfRows_63 : decode c_Lm_digestOfRows 63 = .ok (.getfield 201, 3) := by decide +kernel
theorem d_Lm_digestOfRows_66 : decode c_Lm_digestOfRows 66 = .ok (.if_icmp .ge 40, 3) := by decide +kernel
theorem d_Lm_digestOfRows_69 : decode c_Lm_digestOfRows 69 = .ok (.iconst 0, 1) := by decide +kernel
theorem d_Lm_digestOfRows_70 : decode c_Lm_digestOfRows 70 = .ok (.istore 6, 2) := by decide +kernel
theorem d_Lm_digestOfRows_72 : decode c_Lm_digestOfRows 72 = .ok (.iload 6, 2) := by decide +kernel
theorem d_Lm_digestOfRows_74 : decode c_Lm_digestOfRows 74 = .ok (.iconst 4, 1) := by decide +kernel
theorem d_Lm_digestOfRows_75 : decode c_Lm_digestOfRows 75 = .ok (.if_icmp .ge 25, 3) := by decide +kernel
theorem d_Lm_digestOfRows_78 : decode c_Lm_digestOfRows 78 = .ok (.ldc2_w 267, 3) := by decide +kernel
theorem d_Lm_digestOfRows_81 : decode c_Lm_digestOfRows 81 = .ok (.lload_n 3, 1) := by decide +kernel
theorem d_Lm_digestOfRows_82 : decode c_Lm_digestOfRows 82 = .ok (.lmul, 1) := by decide +kernel
theorem d_Lm_digestOfRows_83 : decode c_Lm_digestOfRows 83 = .ok (.aload_n 0, 1) := by decide +kernel
theorem d_Lm_digestOfRows_84 : decode c_Lm_digestOfRows 84 = .ok (.iload 5, 2) := by decide +kernel
theorem d_Lm_digestOfRows_86 : decode c_Lm_digestOfRows 86 = .ok (.iload 6, 2) := by decide +kernel
theorem d_Lm_digestOfRows_88 : decode c_Lm_digestOfRows 88 = .ok (.invokevirtual 292, 3) := by decide +kernel
theorem d_Lm_digestOfRows_91 : decode c_Lm_digestOfRows 91 = .ok (.i2l, 1) := by decide +kernel
theorem d_Lm_digestOfRows_92 : decode c_Lm_digestOfRows 92 = .ok (.ladd, 1) := by decide +kernel
theorem d_Lm_digestOfRows_93 : decode c_Lm_digestOfRows 93 = .ok (.lstore_n 3, 1) := by decide +kernel
theorem d_Lm_digestOfRows_94 : decode c_Lm_digestOfRows 94 = .ok (.iinc 6 1, 3) := by decide +kernel
theorem d_Lm_digestOfRows_97 : decode c_Lm_digestOfRows 97 = .ok (.goto (-25), 3) := by decide +kernel
theorem d_Lm_digestOfRows_100 : decode c_Lm_digestOfRows 100 = .ok (.iinc 5 1, 3) := by decide +kernel
theorem d_Lm_digestOfRows_103 : decode c_Lm_digestOfRows 103 = .ok (.goto (-46), 3) := by decide +kernel
theorem d_Lm_digestOfRows_106 : decode c_Lm_digestOfRows 106 = .ok (.ldc2_w 267, 3) := by decide +kernel
theorem d_Lm_digestOfRows_109 : decode c_Lm_digestOfRows 109 = .ok (.lload_n 3, 1) := by decide +kernel
theorem d_Lm_digestOfRows_110 : decode c_Lm_digestOfRows 110 = .ok (.lmul, 1) := by decide +kernel
theorem d_Lm_digestOfRows_111 : decode c_Lm_digestOfRows 111 = .ok (.aload_n 0, 1) := by decide +kernel
theorem d_Lm_digestOfRows_112 : decode c_Lm_digestOfRows 112 = .ok (.invokevirtual 295, 3) := by decide +kernel
theorem d_Lm_digestOfRows_115 : decode c_Lm_digestOfRows 115 = .ok (.i2l, 1) := by decide +kernel
theorem d_Lm_digestOfRows_116 : decode c_Lm_digestOfRows 116 = .ok (.ladd, 1) := by decide +kernel
theorem d_Lm_digestOfRows_117 : decode c_Lm_digestOfRows 117 = .ok (.lstore_n 3, 1) := by decide +kernel
theorem d_Lm_digestOfRows_118 : decode c_Lm_digestOfRows 118 = .ok (.ldc2_w 267, 3) := by decide +kernel
theorem d_Lm_digestOfRows_121 : decode c_Lm_digestOfRows 121 = .ok (.lload_n 3, 1) := by decide +kernel
theorem d_Lm_digestOfRows_122 : decode c_Lm_digestOfRows 122 = .ok (.lmul, 1) := by decide +kernel
theorem d_Lm_digestOfRows_123 : decode c_Lm_digestOfRows 123 = .ok (.aload_n 0, 1) := by decide +kernel
theorem d_Lm_digestOfRows_124 : decode c_Lm_digestOfRows 124 = .ok (.invokevirtual 298, 3) := by decide +kernel
theorem d_Lm_digestOfRows_127 : decode c_Lm_digestOfRows 127 = .ok (.i2l, 1) := by decide +kernel
theorem d_Lm_digestOfRows_128 : decode c_Lm_digestOfRows 128 = .ok (.ladd, 1) := by decide +kernel
theorem d_Lm_digestOfRows_129 : decode c_Lm_digestOfRows 129 = .ok (.lstore_n 3, 1) := by decide +kernel
theorem d_Lm_digestOfRows_130 : decode c_Lm_digestOfRows 130 = .ok (.iconst 0, 1) := by decide +kernel
theorem d_Lm_digestOfRows_131 : decode c_Lm_digestOfRows 131 = .ok (.istore 5, 2) := by decide +kernel
theorem d_Lm_digestOfRows_133 : decode c_Lm_digestOfRows 133 = .ok (.iload 5, 2) := by decide +kernel
theorem d_Lm_digestOfRows_135 : decode c_Lm_digestOfRows 135 = .ok (.aload_n 0, 1) := by decide +kernel
theorem d_Lm_digestOfRows_136 : decode c_Lm_digestOfRows 136 = .ok (.getfield 47, 3) := by decide +kernel
theorem d_Lm_digestOfRows_139 : decode c_Lm_digestOfRows 139 = .ok (.getfield 253, 3) := by decide +kernel
theorem d_Lm_digestOfRows_142 : decode c_Lm_digestOfRows 142 = .ok (.if_icmp .ge 41, 3) := by decide +kernel
theorem d_Lm_digestOfRows_145 : decode c_Lm_digestOfRows 145 = .ok (.iconst 0, 1) := by decide +kernel
theorem d_Lm_digestOfRows_146 : decode c_Lm_digestOfRows 146 = .ok (.istore 6, 2) := by decide +kernel
theorem d_Lm_digestOfRows_148 : decode c_Lm_digestOfRows 148 = .ok (.iload 6, 2) := by decide +kernel
theorem d_Lm_digestOfRows_150 : decode c_Lm_digestOfRows 150 = .ok (.bipush 15, 2) := by decide +kernel
theorem d_Lm_digestOfRows_152 : decode c_Lm_digestOfRows 152 = .ok (.if_icmp .ge 25, 3) := by decide +kernel
theorem d_Lm_digestOfRows_155 : decode c_Lm_digestOfRows 155 = .ok (.ldc2_w 267, 3) := by decide +kernel
theorem d_Lm_digestOfRows_158 : decode c_Lm_digestOfRows 158 = .ok (.lload_n 3, 1) := by decide +kernel
theorem d_Lm_digestOfRows_159 : decode c_Lm_digestOfRows 159 = .ok (.lmul, 1) := by decide +kernel
theorem d_Lm_digestOfRows_160 : decode c_Lm_digestOfRows 160 = .ok (.aload_n 0, 1) := by decide +kernel
theorem d_Lm_digestOfRows_161 : decode c_Lm_digestOfRows 161 = .ok (.iload 5, 2) := by decide +kernel
theorem d_Lm_digestOfRows_163 : decode c_Lm_digestOfRows 163 = .ok (.iload 6, 2) := by decide +kernel
theorem d_Lm_digestOfRows_165 : decode c_Lm_digestOfRows 165 = .ok (.invokevirtual 301, 3) := by decide +kernel
theorem d_Lm_digestOfRows_168 : decode c_Lm_digestOfRows 168 = .ok (.i2l, 1) := by decide +kernel
theorem d_Lm_digestOfRows_169 : decode c_Lm_digestOfRows 169 = .ok (.ladd, 1) := by decide +kernel
theorem d_Lm_digestOfRows_170 : decode c_Lm_digestOfRows 170 = .ok (.lstore_n 3, 1) := by decide +kernel
theorem d_Lm_digestOfRows_171 : decode c_Lm_digestOfRows 171 = .ok (.iinc 6 1, 3) := by decide +kernel
theorem d_Lm_digestOfRows_174 : decode c_Lm_digestOfRows 174 = .ok (.goto (-26), 3) := by decide +kernel
theorem d_Lm_digestOfRows_177 : decode c_Lm_digestOfRows 177 = .ok (.iinc 5 1, 3) := by decide +kernel
theorem d_Lm_digestOfRows_180 : decode c_Lm_digestOfRows 180 = .ok (.goto (-47), 3) := by decide +kernel
theorem d_Lm_digestOfRows_183 : decode c_Lm_digestOfRows 183 = .ok (.lload_n 3, 1) := by decide +kernel
theorem d_Lm_digestOfRows_184 : decode c_Lm_digestOfRows 184 = .ok (.lreturn, 1) := by decide +kernel
set_option maxRecDepth 20000 in
theorem w_Lm_digestOfRows_148b {X : HX} {ad : Nat → Nat} {I : HI} {J : HJ} {N : HN} {r : HJ × Int64} {k133 : HJ → Int64 → Int32 → Option (HJ × Int64)} {k148 : HJ → Int64 → Int32 → Int32 → Option (HJ × Int64)} {a0 : Nat} {p1 : Int64} {x3 : Int64} {x5 : Int32} {x6 : Int32} (C : Cx X c_Lm_digestOfRows RX10 7 (some .long) rm_Lm_digestOfRows) (ha0 : gk Tc nC a0 (0, 10))
    (hk133 : ∀ (J : HJ) (x3 : Int64) (x5 : Int32), k133 J x3 x5 = some r → G Tc X ad nC 0 0 I J N (gE X Tc ad nC (I, r.1, N, fun _ => some (.long r.2))) 133 7 [(0, .ref (ad a0)), (3, .long x3), (5, .int x5)] [])
    (hk148 : ∀ (J : HJ) (x3 : Int64) (x5 : Int32) (x6 : Int32), k148 J x3 x5 x6 = some r → G Tc X ad nC 0 0 I J N (gE X Tc ad nC (I, r.1, N, fun _ => some (.long r.2))) 148 7 [(0, .ref (ad a0)), (3, .long x3), (5, .int x5), (6, .int x6)] [])
    (h : Lm_digestOfRows_148b I N a0 p1 k133 k148 J x3 x5 x6 = some r) : G Tc X ad nC 0 0 I J N (gE X Tc ad nC (I, r.1, N, fun _ => some (.long r.2))) 148 7 [(0, .ref (ad a0)), (3, .long x3), (5, .int x5), (6, .int x6)] [] := by
  refine g_iload (pc := 148) C d_Lm_digestOfRows_148 3 rfl ?_
  refine g_bipush (pc := 150) C (15 : Int32) d_Lm_digestOfRows_150 (by decide) ?_
  refine g_icmp_ge (pc := 152) C 177 d_Lm_digestOfRows_152 rfl (fun e1 => ?_) (fun e1 => ?_)
  · have h := o_pos e1 h
    refine g_iinc (pc := 177) (q := 2) (lv' := [(5, .int (x5 + 1)), (0, .ref (ad a0)), (3, .long x3), (6, .int x6)]) C d_Lm_digestOfRows_177 rfl rfl (by decide) rfl ?_
    refine g_goto (pc := 180) C 133 d_Lm_digestOfRows_180 rfl ?_
    refine g_lv [1, 2, 0] rfl ?_
    exact hk133 _ _ _ h
  · have h := o_neg e1 h
    refine g_ldc2 (pc := 155) C kc_Lm_267 d_Lm_digestOfRows_155 ?_
    refine g_lload_n (pc := 158) C d_Lm_digestOfRows_158 rfl 1 rfl ?_
    refine g_lmul (pc := 159) C d_Lm_digestOfRows_159 ?_
    refine g_aload_n (pc := 160) C d_Lm_digestOfRows_160 rfl 0 rfl ?_
    refine g_iload (pc := 161) C d_Lm_digestOfRows_161 2 rfl ?_
    refine g_iload (pc := 163) C d_Lm_digestOfRows_163 3 rfl ?_
    obtain ⟨r2, hc3, h⟩ := o_bn1 h
    refine g_V (pc := 165) (rest := [.long ((31 : Int64) * x3)]) C (k_Lm_kept (xl X) ha0 hc3) sm_Lm_kept ml_Lm_301 im_Lm_kept se_Lm_kept gcX10 rfl ha0 ⟨rfl, rfl, Nat.le_of_ble_eq_true rfl, Nat.le_of_ble_eq_true rfl⟩ ⟨Nat.zero_le _, Nat.zero_le _⟩ rfl rfl (Nat.le_of_ble_eq_true rfl) d_Lm_digestOfRows_165 [.int r2, .long ((31 : Int64) * x3)] rfl ?_
    refine g_i2l (pc := 168) C d_Lm_digestOfRows_168 ?_
    refine g_ladd (pc := 169) C d_Lm_digestOfRows_169 ?_
    obtain ⟨v4, ev4, h⟩ := o_bd h
    refine g_topl ev4 ?_
    refine g_lstore_n (pc := 170) (lv' := [(3, .long v4), (0, .ref (ad a0)), (5, .int x5), (6, .int x6)]) C d_Lm_digestOfRows_170 rfl (by decide) rfl ?_
    refine g_iinc (pc := 171) (q := 3) (lv' := [(6, .int (x6 + 1)), (3, .long v4), (0, .ref (ad a0)), (5, .int x5)]) C d_Lm_digestOfRows_171 rfl rfl (by decide) rfl ?_
    refine g_goto (pc := 174) C 148 d_Lm_digestOfRows_174 rfl ?_
    refine g_lv [2, 1, 3, 0] rfl ?_
    exact hk148 _ _ _ _ h
set_option maxRecDepth 20000 in
theorem w_Lm_digestOfRows_148 {X : HX} {ad : Nat → Nat} {I : HI} {N : HN} {r : HJ × Int64} {k133 : HJ → Int64 → Int32 → Option (HJ × Int64)} {a0 : Nat} {p1 : Int64} (C : Cx X c_Lm_digestOfRows RX10 7 (some .long) rm_Lm_digestOfRows) (ha0 : gk Tc nC a0 (0, 10))
    (hk133 : ∀ (J : HJ) (x3 : Int64) (x5 : Int32), k133 J x3 x5 = some r → G Tc X ad nC 0 0 I J N (gE X Tc ad nC (I, r.1, N, fun _ => some (.long r.2))) 133 7 [(0, .ref (ad a0)), (3, .long x3), (5, .int x5)] []) : ∀ (n : Nat) (J : HJ) (x3 : Int64) (x5 : Int32) (x6 : Int32), Lm_digestOfRows_148 I N a0 p1 k133 n J x3 x5 x6 = some r → G Tc X ad nC 0 0 I J N (gE X Tc ad nC (I, r.1, N, fun _ => some (.long r.2))) 148 7 [(0, .ref (ad a0)), (3, .long x3), (5, .int x5), (6, .int x6)] [] := by
  intro n
  induction n with
  | zero => intro J x3 x5 x6 h; cases h
  | succ n ih => intro J x3 x5 x6 h; exact w_Lm_digestOfRows_148b C ha0 hk133 ih h
set_option maxRecDepth 20000 in
theorem w_Lm_digestOfRows_133b {X : HX} {ad : Nat → Nat} {I : HI} {J : HJ} {N : HN} {r : HJ × Int64} {k133 : HJ → Int64 → Int32 → Option (HJ × Int64)} {a0 : Nat} {p1 : Int64} {x3 : Int64} {x5 : Int32} (C : Cx X c_Lm_digestOfRows RX10 7 (some .long) rm_Lm_digestOfRows) (ha0 : gk Tc nC a0 (0, 10))
    (hk133 : ∀ (J : HJ) (x3 : Int64) (x5 : Int32), k133 J x3 x5 = some r → G Tc X ad nC 0 0 I J N (gE X Tc ad nC (I, r.1, N, fun _ => some (.long r.2))) 133 7 [(0, .ref (ad a0)), (3, .long x3), (5, .int x5)] [])
    (h : Lm_digestOfRows_133b I N a0 p1 k133 J x3 x5 = some r) : G Tc X ad nC 0 0 I J N (gE X Tc ad nC (I, r.1, N, fun _ => some (.long r.2))) 133 7 [(0, .ref (ad a0)), (3, .long x3), (5, .int x5)] [] := by
  refine g_iload (pc := 133) C d_Lm_digestOfRows_133 2 rfl ?_
  refine g_aload_n (pc := 135) C d_Lm_digestOfRows_135 rfl 0 rfl ?_
  obtain ⟨b1, hnb1, hb1, h⟩ := o_rq h
  refine g_get (pc := 136) (k := 5) (v := va_rf ((N a0 5).map ad)) C gcX10 inX10 (by decide) fl_Lm_47 ha0 rfl d_Lm_digestOfRows_136 ?_
  refine g_top (g_rf hnb1) ?_
  refine g_getN (pc := 139) (k := 2) (v := .int (I b1 2)) C gcX4 inX4 (by decide) fl_Lm_253 hb1 rfl d_Lm_digestOfRows_139 ?_
  refine g_icmp_ge (pc := 142) C 183 d_Lm_digestOfRows_142 rfl (fun e2 => ?_) (fun e2 => ?_)
  · have h := o_pos e2 h
    refine g_lload_n (pc := 183) C d_Lm_digestOfRows_183 rfl 1 rfl ?_
    obtain rfl := o_ret h
    exact g_lret (pc := 184) C d_Lm_digestOfRows_184
  · have h := o_neg e2 h
    refine g_iconst (pc := 145) C (0 : Int32) d_Lm_digestOfRows_145 (by decide) ?_
    refine g_istore (pc := 146) (lv' := [(6, .int (0 : Int32)), (0, .ref (ad a0)), (3, .long x3), (5, .int x5)]) C d_Lm_digestOfRows_146 (by decide) rfl ?_
    refine g_lv [1, 2, 3, 0] rfl ?_
    exact w_Lm_digestOfRows_148 C ha0 hk133 _ _ _ _ _ h
set_option maxRecDepth 20000 in
theorem w_Lm_digestOfRows_133 {X : HX} {ad : Nat → Nat} {I : HI} {N : HN} {r : HJ × Int64} {a0 : Nat} {p1 : Int64} (C : Cx X c_Lm_digestOfRows RX10 7 (some .long) rm_Lm_digestOfRows) (ha0 : gk Tc nC a0 (0, 10)) : ∀ (n : Nat) (J : HJ) (x3 : Int64) (x5 : Int32), Lm_digestOfRows_133 I N a0 p1 n J x3 x5 = some r → G Tc X ad nC 0 0 I J N (gE X Tc ad nC (I, r.1, N, fun _ => some (.long r.2))) 133 7 [(0, .ref (ad a0)), (3, .long x3), (5, .int x5)] [] := by
  intro n
  induction n with
  | zero => intro J x3 x5 h; cases h
  | succ n ih => intro J x3 x5 h; exact w_Lm_digestOfRows_133b C ha0 ih h
set_option maxRecDepth 20000 in
theorem w_Lm_digestOfRows_72b {X : HX} {ad : Nat → Nat} {I : HI} {J : HJ} {N : HN} {r : HJ × Int64} {k57 : HJ → Int64 → Int32 → Option (HJ × Int64)} {k72 : HJ → Int64 → Int32 → Int32 → Option (HJ × Int64)} {a0 : Nat} {p1 : Int64} {x3 : Int64} {x5 : Int32} {x6 : Int32} (C : Cx X c_Lm_digestOfRows RX10 7 (some .long) rm_Lm_digestOfRows) (ha0 : gk Tc nC a0 (0, 10))
    (hk57 : ∀ (J : HJ) (x3 : Int64) (x5 : Int32), k57 J x3 x5 = some r → G Tc X ad nC 0 0 I J N (gE X Tc ad nC (I, r.1, N, fun _ => some (.long r.2))) 57 7 [(0, .ref (ad a0)), (3, .long x3), (5, .int x5)] [])
    (hk72 : ∀ (J : HJ) (x3 : Int64) (x5 : Int32) (x6 : Int32), k72 J x3 x5 x6 = some r → G Tc X ad nC 0 0 I J N (gE X Tc ad nC (I, r.1, N, fun _ => some (.long r.2))) 72 7 [(0, .ref (ad a0)), (3, .long x3), (5, .int x5), (6, .int x6)] [])
    (h : Lm_digestOfRows_72b I N a0 p1 k57 k72 J x3 x5 x6 = some r) : G Tc X ad nC 0 0 I J N (gE X Tc ad nC (I, r.1, N, fun _ => some (.long r.2))) 72 7 [(0, .ref (ad a0)), (3, .long x3), (5, .int x5), (6, .int x6)] [] := by
  refine g_iload (pc := 72) C d_Lm_digestOfRows_72 3 rfl ?_
  refine g_iconst (pc := 74) C (4 : Int32) d_Lm_digestOfRows_74 (by decide) ?_
  refine g_icmp_ge (pc := 75) C 100 d_Lm_digestOfRows_75 rfl (fun e1 => ?_) (fun e1 => ?_)
  · have h := o_pos e1 h
    refine g_iinc (pc := 100) (q := 2) (lv' := [(5, .int (x5 + 1)), (0, .ref (ad a0)), (3, .long x3), (6, .int x6)]) C d_Lm_digestOfRows_100 rfl rfl (by decide) rfl ?_
    refine g_goto (pc := 103) C 57 d_Lm_digestOfRows_103 rfl ?_
    refine g_lv [1, 2, 0] rfl ?_
    exact hk57 _ _ _ h
  · have h := o_neg e1 h
    refine g_ldc2 (pc := 78) C kc_Lm_267 d_Lm_digestOfRows_78 ?_
    refine g_lload_n (pc := 81) C d_Lm_digestOfRows_81 rfl 1 rfl ?_
    refine g_lmul (pc := 82) C d_Lm_digestOfRows_82 ?_
    refine g_aload_n (pc := 83) C d_Lm_digestOfRows_83 rfl 0 rfl ?_
    refine g_iload (pc := 84) C d_Lm_digestOfRows_84 2 rfl ?_
    refine g_iload (pc := 86) C d_Lm_digestOfRows_86 3 rfl ?_
    obtain ⟨r2, hc3, h⟩ := o_bn1 h
    refine g_V (pc := 88) (rest := [.long ((31 : Int64) * x3)]) C (k_Lm_bill (xl X) ha0 hc3) sm_Lm_bill ml_Lm_292 im_Lm_bill se_Lm_bill gcX10 rfl ha0 ⟨rfl, rfl, Nat.le_of_ble_eq_true rfl, Nat.le_of_ble_eq_true rfl⟩ ⟨Nat.zero_le _, Nat.zero_le _⟩ rfl rfl (Nat.le_of_ble_eq_true rfl) d_Lm_digestOfRows_88 [.int r2, .long ((31 : Int64) * x3)] rfl ?_
    refine g_i2l (pc := 91) C d_Lm_digestOfRows_91 ?_
    refine g_ladd (pc := 92) C d_Lm_digestOfRows_92 ?_
    obtain ⟨v4, ev4, h⟩ := o_bd h
    refine g_topl ev4 ?_
    refine g_lstore_n (pc := 93) (lv' := [(3, .long v4), (0, .ref (ad a0)), (5, .int x5), (6, .int x6)]) C d_Lm_digestOfRows_93 rfl (by decide) rfl ?_
    refine g_iinc (pc := 94) (q := 3) (lv' := [(6, .int (x6 + 1)), (3, .long v4), (0, .ref (ad a0)), (5, .int x5)]) C d_Lm_digestOfRows_94 rfl rfl (by decide) rfl ?_
    refine g_goto (pc := 97) C 72 d_Lm_digestOfRows_97 rfl ?_
    refine g_lv [2, 1, 3, 0] rfl ?_
    exact hk72 _ _ _ _ h
set_option maxRecDepth 20000 in
theorem w_Lm_digestOfRows_72 {X : HX} {ad : Nat → Nat} {I : HI} {N : HN} {r : HJ × Int64} {k57 : HJ → Int64 → Int32 → Option (HJ × Int64)} {a0 : Nat} {p1 : Int64} (C : Cx X c_Lm_digestOfRows RX10 7 (some .long) rm_Lm_digestOfRows) (ha0 : gk Tc nC a0 (0, 10))
    (hk57 : ∀ (J : HJ) (x3 : Int64) (x5 : Int32), k57 J x3 x5 = some r → G Tc X ad nC 0 0 I J N (gE X Tc ad nC (I, r.1, N, fun _ => some (.long r.2))) 57 7 [(0, .ref (ad a0)), (3, .long x3), (5, .int x5)] []) : ∀ (n : Nat) (J : HJ) (x3 : Int64) (x5 : Int32) (x6 : Int32), Lm_digestOfRows_72 I N a0 p1 k57 n J x3 x5 x6 = some r → G Tc X ad nC 0 0 I J N (gE X Tc ad nC (I, r.1, N, fun _ => some (.long r.2))) 72 7 [(0, .ref (ad a0)), (3, .long x3), (5, .int x5), (6, .int x6)] [] := by
  intro n
  induction n with
  | zero => intro J x3 x5 x6 h; cases h
  | succ n ih => intro J x3 x5 x6 h; exact w_Lm_digestOfRows_72b C ha0 hk57 ih h
set_option maxRecDepth 20000 in
theorem w_Lm_digestOfRows_57b {X : HX} {ad : Nat → Nat} {I : HI} {J : HJ} {N : HN} {r : HJ × Int64} {k57 : HJ → Int64 → Int32 → Option (HJ × Int64)} {a0 : Nat} {p1 : Int64} {x3 : Int64} {x5 : Int32} (C : Cx X c_Lm_digestOfRows RX10 7 (some .long) rm_Lm_digestOfRows) (ha0 : gk Tc nC a0 (0, 10))
    (hk57 : ∀ (J : HJ) (x3 : Int64) (x5 : Int32), k57 J x3 x5 = some r → G Tc X ad nC 0 0 I J N (gE X Tc ad nC (I, r.1, N, fun _ => some (.long r.2))) 57 7 [(0, .ref (ad a0)), (3, .long x3), (5, .int x5)] [])
    (h : Lm_digestOfRows_57b I N a0 p1 k57 J x3 x5 = some r) : G Tc X ad nC 0 0 I J N (gE X Tc ad nC (I, r.1, N, fun _ => some (.long r.2))) 57 7 [(0, .ref (ad a0)), (3, .long x3), (5, .int x5)] [] := by
  refine g_iload (pc := 57) C d_Lm_digestOfRows_57 2 rfl ?_
  refine g_aload_n (pc := 59) C d_Lm_digestOfRows_59 rfl 0 rfl ?_
  obtain ⟨b1, hnb1, hb1, h⟩ := o_rq h
  refine g_get (pc := 60) (k := 4) (v := va_rf ((N a0 4).map ad)) C gcX10 inX10 (by decide) fl_Lm_40 ha0 rfl d_Lm_digestOfRows_60 ?_
  refine g_top (g_rf hnb1) ?_
  refine g_getN (pc := 63) (k := 1) (v := .int (I b1 1)) C gcX0 inX0 (by decide) fl_Lm_201 hb1 rfl d_Lm_digestOfRows_63 ?_
  refine g_icmp_ge (pc := 66) C 106 d_Lm_digestOfRows_66 rfl (fun e2 => ?_) (fun e2 => ?_)
  · have h := o_pos e2 h
    refine g_ldc2 (pc := 106) C kc_Lm_267 d_Lm_digestOfRows_106 ?_
    refine g_lload_n (pc := 109) C d_Lm_digestOfRows_109 rfl 1 rfl ?_
    refine g_lmul (pc := 110) C d_Lm_digestOfRows_110 ?_
    refine g_aload_n (pc := 111) C d_Lm_digestOfRows_111 rfl 0 rfl ?_
    obtain ⟨r3, hc4, h⟩ := o_bn1 h
    refine g_V (pc := 112) (rest := [.long ((31 : Int64) * x3)]) C (k_Lm_values (xl X) ha0 hc4) sm_Lm_values ml_Lm_295 im_Lm_values se_Lm_values gcX10 rfl ha0 ⟨rfl, rfl, Nat.le_of_ble_eq_true rfl, Nat.le_of_ble_eq_true rfl⟩ ⟨Nat.zero_le _, Nat.zero_le _⟩ rfl rfl (Nat.le_of_ble_eq_true rfl) d_Lm_digestOfRows_112 [.int r3, .long ((31 : Int64) * x3)] rfl ?_
    refine g_i2l (pc := 115) C d_Lm_digestOfRows_115 ?_
    refine g_ladd (pc := 116) C d_Lm_digestOfRows_116 ?_
    obtain ⟨v5, ev5, h⟩ := o_bd h
    refine g_topl ev5 ?_
    refine g_lstore_n (pc := 117) (lv' := [(3, .long v5), (0, .ref (ad a0)), (5, .int x5)]) C d_Lm_digestOfRows_117 rfl (by decide) rfl ?_
    refine g_ldc2 (pc := 118) C kc_Lm_267 d_Lm_digestOfRows_118 ?_
    refine g_lload_n (pc := 121) C d_Lm_digestOfRows_121 rfl 0 rfl ?_
    refine g_lmul (pc := 122) C d_Lm_digestOfRows_122 ?_
    refine g_aload_n (pc := 123) C d_Lm_digestOfRows_123 rfl 1 rfl ?_
    obtain ⟨J6, r7, hc8, h⟩ := o_bn2 h
    refine g_V (pc := 124) (rest := [.long ((31 : Int64) * v5)]) C (k_Lm_find (xl X) ha0 hc8) sm_Lm_find ml_Lm_298 im_Lm_find se_Lm_find gcX10 rfl ha0 ⟨rfl, rfl, Nat.le_of_ble_eq_true rfl, Nat.le_of_ble_eq_true rfl⟩ ⟨Nat.zero_le _, Nat.zero_le _⟩ rfl rfl (Nat.le_of_ble_eq_true rfl) d_Lm_digestOfRows_124 [.int r7, .long ((31 : Int64) * v5)] rfl ?_
    refine g_i2l (pc := 127) C d_Lm_digestOfRows_127 ?_
    refine g_ladd (pc := 128) C d_Lm_digestOfRows_128 ?_
    obtain ⟨v9, ev9, h⟩ := o_bd h
    refine g_topl ev9 ?_
    refine g_lstore_n (pc := 129) (lv' := [(3, .long v9), (0, .ref (ad a0)), (5, .int x5)]) C d_Lm_digestOfRows_129 rfl (by decide) rfl ?_
    refine g_iconst (pc := 130) C (0 : Int32) d_Lm_digestOfRows_130 (by decide) ?_
    refine g_istore (pc := 131) (lv' := [(5, .int (0 : Int32)), (3, .long v9), (0, .ref (ad a0))]) C d_Lm_digestOfRows_131 (by decide) rfl ?_
    refine g_lv [2, 1, 0] rfl ?_
    exact w_Lm_digestOfRows_133 C ha0 _ _ _ _ h
  · have h := o_neg e2 h
    refine g_iconst (pc := 69) C (0 : Int32) d_Lm_digestOfRows_69 (by decide) ?_
    refine g_istore (pc := 70) (lv' := [(6, .int (0 : Int32)), (0, .ref (ad a0)), (3, .long x3), (5, .int x5)]) C d_Lm_digestOfRows_70 (by decide) rfl ?_
    refine g_lv [1, 2, 3, 0] rfl ?_
    exact w_Lm_digestOfRows_72 C ha0 hk57 _ _ _ _ _ h
set_option maxRecDepth 20000 in
theorem w_Lm_digestOfRows_57 {X : HX} {ad : Nat → Nat} {I : HI} {N : HN} {r : HJ × Int64} {a0 : Nat} {p1 : Int64} (C : Cx X c_Lm_digestOfRows RX10 7 (some .long) rm_Lm_digestOfRows) (ha0 : gk Tc nC a0 (0, 10)) : ∀ (n : Nat) (J : HJ) (x3 : Int64) (x5 : Int32), Lm_digestOfRows_57 I N a0 p1 n J x3 x5 = some r → G Tc X ad nC 0 0 I J N (gE X Tc ad nC (I, r.1, N, fun _ => some (.long r.2))) 57 7 [(0, .ref (ad a0)), (3, .long x3), (5, .int x5)] [] := by
  intro n
  induction n with
  | zero => intro J x3 x5 h; cases h
  | succ n ih => intro J x3 x5 h; exact w_Lm_digestOfRows_57b C ha0 ih h
set_option maxRecDepth 20000 in
theorem w_Lm_digestOfRows_20b {X : HX} {ad : Nat → Nat} {I : HI} {J : HJ} {N : HN} {r : HJ × Int64} {k5 : HJ → Int64 → Int32 → Option (HJ × Int64)} {k20 : HJ → Int64 → Int32 → Int32 → Option (HJ × Int64)} {a0 : Nat} {p1 : Int64} {x3 : Int64} {x5 : Int32} {x6 : Int32} (C : Cx X c_Lm_digestOfRows RX10 7 (some .long) rm_Lm_digestOfRows) (ha0 : gk Tc nC a0 (0, 10))
    (hk5 : ∀ (J : HJ) (x3 : Int64) (x5 : Int32), k5 J x3 x5 = some r → G Tc X ad nC 0 0 I J N (gE X Tc ad nC (I, r.1, N, fun _ => some (.long r.2))) 5 7 [(0, .ref (ad a0)), (3, .long x3), (5, .int x5)] [])
    (hk20 : ∀ (J : HJ) (x3 : Int64) (x5 : Int32) (x6 : Int32), k20 J x3 x5 x6 = some r → G Tc X ad nC 0 0 I J N (gE X Tc ad nC (I, r.1, N, fun _ => some (.long r.2))) 20 7 [(0, .ref (ad a0)), (3, .long x3), (5, .int x5), (6, .int x6)] [])
    (h : Lm_digestOfRows_20b I N a0 p1 k5 k20 J x3 x5 x6 = some r) : G Tc X ad nC 0 0 I J N (gE X Tc ad nC (I, r.1, N, fun _ => some (.long r.2))) 20 7 [(0, .ref (ad a0)), (3, .long x3), (5, .int x5), (6, .int x6)] [] := by
  refine g_iload (pc := 20) C d_Lm_digestOfRows_20 3 rfl ?_
  refine g_iconst (pc := 22) C (5 : Int32) d_Lm_digestOfRows_22 (by decide) ?_
  refine g_icmp_ge (pc := 23) C 48 d_Lm_digestOfRows_23 rfl (fun e1 => ?_) (fun e1 => ?_)
  · have h := o_pos e1 h
    refine g_iinc (pc := 48) (q := 2) (lv' := [(5, .int (x5 + 1)), (0, .ref (ad a0)), (3, .long x3), (6, .int x6)]) C d_Lm_digestOfRows_48 rfl rfl (by decide) rfl ?_
    refine g_goto (pc := 51) C 5 d_Lm_digestOfRows_51 rfl ?_
    refine g_lv [1, 2, 0] rfl ?_
    exact hk5 _ _ _ h
  · have h := o_neg e1 h
    refine g_ldc2 (pc := 26) C kc_Lm_267 d_Lm_digestOfRows_26 ?_
    refine g_lload_n (pc := 29) C d_Lm_digestOfRows_29 rfl 1 rfl ?_
    refine g_lmul (pc := 30) C d_Lm_digestOfRows_30 ?_
    refine g_aload_n (pc := 31) C d_Lm_digestOfRows_31 rfl 0 rfl ?_
    refine g_iload (pc := 32) C d_Lm_digestOfRows_32 2 rfl ?_
    refine g_iload (pc := 34) C d_Lm_digestOfRows_34 3 rfl ?_
    obtain ⟨r2, hc3, h⟩ := o_bn1 h
    refine g_V (pc := 36) (rest := [.long ((31 : Int64) * x3)]) C (k_Lm_element (xl X) ha0 hc3) sm_Lm_element ml_Lm_289 im_Lm_element se_Lm_element gcX10 rfl ha0 ⟨rfl, rfl, Nat.le_of_ble_eq_true rfl, Nat.le_of_ble_eq_true rfl⟩ ⟨Nat.zero_le _, Nat.zero_le _⟩ rfl rfl (Nat.le_of_ble_eq_true rfl) d_Lm_digestOfRows_36 [.int r2, .long ((31 : Int64) * x3)] rfl ?_
    refine g_i2l (pc := 39) C d_Lm_digestOfRows_39 ?_
    refine g_ladd (pc := 40) C d_Lm_digestOfRows_40 ?_
    obtain ⟨v4, ev4, h⟩ := o_bd h
    refine g_topl ev4 ?_
    refine g_lstore_n (pc := 41) (lv' := [(3, .long v4), (0, .ref (ad a0)), (5, .int x5), (6, .int x6)]) C d_Lm_digestOfRows_41 rfl (by decide) rfl ?_
    refine g_iinc (pc := 42) (q := 3) (lv' := [(6, .int (x6 + 1)), (3, .long v4), (0, .ref (ad a0)), (5, .int x5)]) C d_Lm_digestOfRows_42 rfl rfl (by decide) rfl ?_
    refine g_goto (pc := 45) C 20 d_Lm_digestOfRows_45 rfl ?_
    refine g_lv [2, 1, 3, 0] rfl ?_
    exact hk20 _ _ _ _ h
set_option maxRecDepth 20000 in
theorem w_Lm_digestOfRows_20 {X : HX} {ad : Nat → Nat} {I : HI} {N : HN} {r : HJ × Int64} {k5 : HJ → Int64 → Int32 → Option (HJ × Int64)} {a0 : Nat} {p1 : Int64} (C : Cx X c_Lm_digestOfRows RX10 7 (some .long) rm_Lm_digestOfRows) (ha0 : gk Tc nC a0 (0, 10))
    (hk5 : ∀ (J : HJ) (x3 : Int64) (x5 : Int32), k5 J x3 x5 = some r → G Tc X ad nC 0 0 I J N (gE X Tc ad nC (I, r.1, N, fun _ => some (.long r.2))) 5 7 [(0, .ref (ad a0)), (3, .long x3), (5, .int x5)] []) : ∀ (n : Nat) (J : HJ) (x3 : Int64) (x5 : Int32) (x6 : Int32), Lm_digestOfRows_20 I N a0 p1 k5 n J x3 x5 x6 = some r → G Tc X ad nC 0 0 I J N (gE X Tc ad nC (I, r.1, N, fun _ => some (.long r.2))) 20 7 [(0, .ref (ad a0)), (3, .long x3), (5, .int x5), (6, .int x6)] [] := by
  intro n
  induction n with
  | zero => intro J x3 x5 x6 h; cases h
  | succ n ih => intro J x3 x5 x6 h; exact w_Lm_digestOfRows_20b C ha0 hk5 ih h
set_option maxRecDepth 20000 in
theorem w_Lm_digestOfRows_5b {X : HX} {ad : Nat → Nat} {I : HI} {J : HJ} {N : HN} {r : HJ × Int64} {k5 : HJ → Int64 → Int32 → Option (HJ × Int64)} {a0 : Nat} {p1 : Int64} {x3 : Int64} {x5 : Int32} (C : Cx X c_Lm_digestOfRows RX10 7 (some .long) rm_Lm_digestOfRows) (ha0 : gk Tc nC a0 (0, 10))
    (hk5 : ∀ (J : HJ) (x3 : Int64) (x5 : Int32), k5 J x3 x5 = some r → G Tc X ad nC 0 0 I J N (gE X Tc ad nC (I, r.1, N, fun _ => some (.long r.2))) 5 7 [(0, .ref (ad a0)), (3, .long x3), (5, .int x5)] [])
    (h : Lm_digestOfRows_5b I N a0 p1 k5 J x3 x5 = some r) : G Tc X ad nC 0 0 I J N (gE X Tc ad nC (I, r.1, N, fun _ => some (.long r.2))) 5 7 [(0, .ref (ad a0)), (3, .long x3), (5, .int x5)] [] := by
  refine g_iload (pc := 5) C d_Lm_digestOfRows_5 2 rfl ?_
  refine g_aload_n (pc := 7) C d_Lm_digestOfRows_7 rfl 0 rfl ?_
  obtain ⟨b1, hnb1, hb1, h⟩ := o_rq h
  refine g_get (pc := 8) (k := 1) (v := va_rf ((N a0 1).map ad)) C gcX10 inX10 (by decide) fl_Lm_19 ha0 rfl d_Lm_digestOfRows_8 ?_
  refine g_top (g_rf hnb1) ?_
  refine g_getN (pc := 11) (k := 1) (v := .int (I b1 1)) C gcX3 inX3 (by decide) fl_Lm_161 hb1 rfl d_Lm_digestOfRows_11 ?_
  refine g_icmp_ge (pc := 14) C 54 d_Lm_digestOfRows_14 rfl (fun e2 => ?_) (fun e2 => ?_)
  · have h := o_pos e2 h
    refine g_iconst (pc := 54) C (0 : Int32) d_Lm_digestOfRows_54 (by decide) ?_
    refine g_istore (pc := 55) (lv' := [(5, .int (0 : Int32)), (0, .ref (ad a0)), (3, .long x3)]) C d_Lm_digestOfRows_55 (by decide) rfl ?_
    refine g_lv [1, 2, 0] rfl ?_
    exact w_Lm_digestOfRows_57 C ha0 _ _ _ _ h
  · have h := o_neg e2 h
    refine g_iconst (pc := 17) C (0 : Int32) d_Lm_digestOfRows_17 (by decide) ?_
    refine g_istore (pc := 18) (lv' := [(6, .int (0 : Int32)), (0, .ref (ad a0)), (3, .long x3), (5, .int x5)]) C d_Lm_digestOfRows_18 (by decide) rfl ?_
    refine g_lv [1, 2, 3, 0] rfl ?_
    exact w_Lm_digestOfRows_20 C ha0 hk5 _ _ _ _ _ h
set_option maxRecDepth 20000 in
theorem w_Lm_digestOfRows_5 {X : HX} {ad : Nat → Nat} {I : HI} {N : HN} {r : HJ × Int64} {a0 : Nat} {p1 : Int64} (C : Cx X c_Lm_digestOfRows RX10 7 (some .long) rm_Lm_digestOfRows) (ha0 : gk Tc nC a0 (0, 10)) : ∀ (n : Nat) (J : HJ) (x3 : Int64) (x5 : Int32), Lm_digestOfRows_5 I N a0 p1 n J x3 x5 = some r → G Tc X ad nC 0 0 I J N (gE X Tc ad nC (I, r.1, N, fun _ => some (.long r.2))) 5 7 [(0, .ref (ad a0)), (3, .long x3), (5, .int x5)] [] := by
  intro n
  induction n with
  | zero => intro J x3 x5 h; cases h
  | succ n ih => intro J x3 x5 h; exact w_Lm_digestOfRows_5b C ha0 ih h
set_option maxRecDepth 20000 in
theorem w_Lm_digestOfRows_0 {X : HX} {ad : Nat → Nat} {I : HI} {J : HJ} {N : HN} {r : HJ × Int64} {a0 : Nat} {p1 : Int64} (C : Cx X c_Lm_digestOfRows RX10 7 (some .long) rm_Lm_digestOfRows) (ha0 : gk Tc nC a0 (0, 10))
    (h : Lm_digestOfRows_0 I N a0 p1 J = some r) : G Tc X ad nC 0 0 I J N (gE X Tc ad nC (I, r.1, N, fun _ => some (.long r.2))) 0 7 [(0, .ref (ad a0)), (1, .long p1)] [] := by
  refine g_lload_n (pc := 0) C d_Lm_digestOfRows_0 rfl 1 rfl ?_
  refine g_lstore_n (pc := 1) (lv' := [(3, .long p1), (0, .ref (ad a0)), (1, .long p1)]) C d_Lm_digestOfRows_1 rfl (by decide) rfl ?_
  refine g_iconst (pc := 2) C (0 : Int32) d_Lm_digestOfRows_2 (by decide) ?_
  refine g_istore (pc := 3) (lv' := [(5, .int (0 : Int32)), (3, .long p1), (0, .ref (ad a0)), (1, .long p1)]) C d_Lm_digestOfRows_3 (by decide) rfl ?_
  refine g_lv [2, 1, 0] rfl ?_
  exact w_Lm_digestOfRows_5 C ha0 _ _ _ _ h
set_option maxRecDepth 20000 in
theorem k_Lm_digestOfRows (l : Launch) {I : HI} {J : HJ} {N : HN} {a0 : Nat} {p1 : Int64} {r : HJ × Int64} (ha0 : gk Tc nC a0 (0, 10)) (h : Lm_digestOfRows I N a0 p1 J = some r) : gM l y_Lm_digestOfRows c_Lm_digestOfRows 7 (some .long) rm_Lm_digestOfRows Tc nC I J N (fun ad => [.ref (ad a0), .long p1]) (I, r.1, N, fun _ => some (.long r.2)) :=
  g_meth (lv := fun ad => [(0, .ref (ad a0)), (1, .long p1)]) (by decide) (fun _ => Nat.le_of_ble_eq_true rfl) (fun _ => rfl) (fun X ad C => g_lv [0, 1] rfl (w_Lm_digestOfRows_0 C ha0 h))
theorem d_Lm_digest_0 : decode c_Lm_digest 0 = .ok (.ldc2_w 265, 3) := by decide +kernel
theorem d_Lm_digest_3 : decode c_Lm_digest 3 = .ok (.lstore_n 1, 1) := by decide +kernel
theorem d_Lm_digest_4 : decode c_Lm_digest 4 = .ok (.iconst 0, 1) := by decide +kernel
theorem d_Lm_digest_5 : decode c_Lm_digest 5 = .ok (.istore_n 3, 1) := by decide +kernel
theorem d_Lm_digest_6 : decode c_Lm_digest 6 = .ok (.iload_n 3, 1) := by decide +kernel
theorem d_Lm_digest_7 : decode c_Lm_digest 7 = .ok (.bipush 7, 2) := by decide +kernel
theorem d_Lm_digest_9 : decode c_Lm_digest 9 = .ok (.if_icmp .gt 22, 3) := by decide +kernel
theorem d_Lm_digest_12 : decode c_Lm_digest 12 = .ok (.ldc2_w 267, 3) := by decide +kernel
theorem d_Lm_digest_15 : decode c_Lm_digest 15 = .ok (.lload_n 1, 1) := by decide +kernel
theorem d_Lm_digest_16 : decode c_Lm_digest 16 = .ok (.lmul, 1) := by decide +kernel
theorem d_Lm_digest_17 : decode c_Lm_digest 17 = .ok (.aload_n 0, 1) := by decide +kernel
theorem d_Lm_digest_18 : decode c_Lm_digest 18 = .ok (.iload_n 3, 1) := by decide +kernel
theorem d_Lm_digest_19 : decode c_Lm_digest 19 = .ok (.invokevirtual 269, 3) := by decide +kernel
theorem d_Lm_digest_22 : decode c_Lm_digest 22 = .ok (.i2l, 1) := by decide +kernel
theorem d_Lm_digest_23 : decode c_Lm_digest 23 = .ok (.ladd, 1) := by decide +kernel
theorem d_Lm_digest_24 : decode c_Lm_digest 24 = .ok (.lstore_n 1, 1) := by decide +kernel
theorem d_Lm_digest_25 : decode c_Lm_digest 25 = .ok (.iinc 3 1, 3) := by decide +kernel
theorem d_Lm_digest_28 : decode c_Lm_digest 28 = .ok (.goto (-22), 3) := by decide +kernel
theorem d_Lm_digest_31 : decode c_Lm_digest 31 = .ok (.iconst 0, 1) := by decide +kernel
theorem d_Lm_digest_32 : decode c_Lm_digest 32 = .ok (.istore_n 3, 1) := by decide +kernel
theorem d_Lm_digest_33 : decode c_Lm_digest 33 = .ok (.iload_n 3, 1) := by decide +kernel
theorem d_Lm_digest_34 : decode c_Lm_digest 34 = .ok (.bipush 7, 2) := by decide +kernel
theorem d_Lm_digest_36 : decode c_Lm_digest 36 = .ok (.if_icmp .ge 63, 3) := by decide +kernel
theorem d_Lm_digest_39 : decode c_Lm_digest 39 = .ok (.ldc2_w 267, 3) := by decide +kernel
theorem d_Lm_digest_42 : decode c_Lm_digest 42 = .ok (.lload_n 1, 1) := by decide +kernel
theorem d_Lm_digest_43 : decode c_Lm_digest 43 = .ok (.lmul, 1) := by decide +kernel
theorem d_Lm_digest_44 : decode c_Lm_digest 44 = .ok (.aload_n 0, 1) := by decide +kernel
theorem d_Lm_digest_45 : decode c_Lm_digest 45 = .ok (.iconst 0, 1) := by decide +kernel
theorem d_Lm_digest_46 : decode c_Lm_digest 46 = .ok (.iload_n 3, 1) := by decide +kernel
theorem d_Lm_digest_47 : decode c_Lm_digest 47 = .ok (.invokevirtual 272, 3) := by decide +kernel
theorem d_Lm_digest_50 : decode c_Lm_digest 50 = .ok (.i2l, 1) := by decide +kernel
theorem d_Lm_digest_51 : decode c_Lm_digest 51 = .ok (.ladd, 1) := by decide +kernel
theorem d_Lm_digest_52 : decode c_Lm_digest 52 = .ok (.lstore_n 1, 1) := by decide +kernel
theorem d_Lm_digest_53 : decode c_Lm_digest 53 = .ok (.ldc2_w 267, 3) := by decide +kernel
theorem d_Lm_digest_56 : decode c_Lm_digest 56 = .ok (.lload_n 1, 1) := by decide +kernel
theorem d_Lm_digest_57 : decode c_Lm_digest 57 = .ok (.lmul, 1) := by decide +kernel
theorem d_Lm_digest_58 : decode c_Lm_digest 58 = .ok (.aload_n 0, 1) := by decide +kernel
theorem d_Lm_digest_59 : decode c_Lm_digest 59 = .ok (.iconst 1, 1) := by decide +kernel
theorem d_Lm_digest_60 : decode c_Lm_digest 60 = .ok (.iload_n 3, 1) := by decide +kernel
theorem d_Lm_digest_61 : decode c_Lm_digest 61 = .ok (.invokevirtual 272, 3) := by decide +kernel
theorem d_Lm_digest_64 : decode c_Lm_digest 64 = .ok (.i2l, 1) := by decide +kernel
theorem d_Lm_digest_65 : decode c_Lm_digest 65 = .ok (.ladd, 1) := by decide +kernel
theorem d_Lm_digest_66 : decode c_Lm_digest 66 = .ok (.lstore_n 1, 1) := by decide +kernel
theorem d_Lm_digest_67 : decode c_Lm_digest 67 = .ok (.ldc2_w 267, 3) := by decide +kernel
theorem d_Lm_digest_70 : decode c_Lm_digest 70 = .ok (.lload_n 1, 1) := by decide +kernel
theorem d_Lm_digest_71 : decode c_Lm_digest 71 = .ok (.lmul, 1) := by decide +kernel
theorem d_Lm_digest_72 : decode c_Lm_digest 72 = .ok (.aload_n 0, 1) := by decide +kernel
theorem d_Lm_digest_73 : decode c_Lm_digest 73 = .ok (.iconst 0, 1) := by decide +kernel
theorem d_Lm_digest_74 : decode c_Lm_digest 74 = .ok (.iload_n 3, 1) := by decide +kernel
theorem d_Lm_digest_75 : decode c_Lm_digest 75 = .ok (.invokevirtual 275, 3) := by decide +kernel
theorem d_Lm_digest_78 : decode c_Lm_digest 78 = .ok (.ladd, 1) := by decide +kernel
theorem d_Lm_digest_79 : decode c_Lm_digest 79 = .ok (.lstore_n 1, 1) := by decide +kernel
theorem d_Lm_digest_80 : decode c_Lm_digest 80 = .ok (.ldc2_w 267, 3) := by decide +kernel
theorem d_Lm_digest_83 : decode c_Lm_digest 83 = .ok (.lload_n 1, 1) := by decide +kernel
theorem d_Lm_digest_84 : decode c_Lm_digest 84 = .ok (.lmul, 1) := by decide +kernel
theorem d_Lm_digest_85 : decode c_Lm_digest 85 = .ok (.aload_n 0, 1) := by decide +kernel
theorem d_Lm_digest_86 : decode c_Lm_digest 86 = .ok (.iconst 1, 1) := by decide +kernel
theorem d_Lm_digest_87 : decode c_Lm_digest 87 = .ok (.iload_n 3, 1) := by decide +kernel
theorem d_Lm_digest_88 : decode c_Lm_digest 88 = .ok (.invokevirtual 275, 3) := by decide +kernel
theorem d_Lm_digest_91 : decode c_Lm_digest 91 = .ok (.ladd, 1) := by decide +kernel
theorem d_Lm_digest_92 : decode c_Lm_digest 92 = .ok (.lstore_n 1, 1) := by decide +kernel
theorem d_Lm_digest_93 : decode c_Lm_digest 93 = .ok (.iinc 3 1, 3) := by decide +kernel
theorem d_Lm_digest_96 : decode c_Lm_digest 96 = .ok (.goto (-63), 3) := by decide +kernel
theorem d_Lm_digest_99 : decode c_Lm_digest 99 = .ok (.iconst 0, 1) := by decide +kernel
theorem d_Lm_digest_100 : decode c_Lm_digest 100 = .ok (.istore_n 3, 1) := by decide +kernel
theorem d_Lm_digest_101 : decode c_Lm_digest 101 = .ok (.iload_n 3, 1) := by decide +kernel
theorem d_Lm_digest_102 : decode c_Lm_digest 102 = .ok (.iconst 4, 1) := by decide +kernel
theorem d_Lm_digest_103 : decode c_Lm_digest 103 = .ok (.if_icmp .gt 22, 3) := by decide +kernel
theorem d_Lm_digest_106 : decode c_Lm_digest 106 = .ok (.ldc2_w 267, 3) := by decide +kernel
theorem d_Lm_digest_109 : decode c_Lm_digest 109 = .ok (.lload_n 1, 1) := by decide +kernel
theorem d_Lm_digest_110 : decode c_Lm_digest 110 = .ok (.lmul, 1) := by decide +kernel
theorem d_Lm_digest_111 : decode c_Lm_digest 111 = .ok (.aload_n 0, 1) := by decide +kernel
theorem d_Lm_digest_112 : decode c_Lm_digest 112 = .ok (.iload_n 3, 1) := by decide +kernel
theorem d_Lm_digest_113 : decode c_Lm_digest 113 = .ok (.invokevirtual 278, 3) := by decide +kernel
theorem d_Lm_digest_116 : decode c_Lm_digest 116 = .ok (.i2l, 1) := by decide +kernel
theorem d_Lm_digest_117 : decode c_Lm_digest 117 = .ok (.ladd, 1) := by decide +kernel
theorem d_Lm_digest_118 : decode c_Lm_digest 118 = .ok (.lstore_n 1, 1) := by decide +kernel
theorem d_Lm_digest_119 : decode c_Lm_digest 119 = .ok (.iinc 3 1, 3) := by decide +kernel
theorem d_Lm_digest_122 : decode c_Lm_digest 122 = .ok (.goto (-21), 3) := by decide +kernel
theorem d_Lm_digest_125 : decode c_Lm_digest 125 = .ok (.iconst 0, 1) := by decide +kernel
theorem d_Lm_digest_126 : decode c_Lm_digest 126 = .ok (.istore_n 3, 1) := by decide +kernel
theorem d_Lm_digest_127 : decode c_Lm_digest 127 = .ok (.iload_n 3, 1) := by decide +kernel
theorem d_Lm_digest_128 : decode c_Lm_digest 128 = .ok (.iconst 4, 1) := by decide +kernel
theorem d_Lm_digest_129 : decode c_Lm_digest 129 = .ok (.if_icmp .ge 22, 3) := by decide +kernel
theorem d_Lm_digest_132 : decode c_Lm_digest 132 = .ok (.ldc2_w 267, 3) := by decide +kernel
theorem d_Lm_digest_135 : decode c_Lm_digest 135 = .ok (.lload_n 1, 1) := by decide +kernel
theorem d_Lm_digest_136 : decode c_Lm_digest 136 = .ok (.lmul, 1) := by decide +kernel
theorem d_Lm_digest_137 : decode c_Lm_digest 137 = .ok (.aload_n 0, 1) := by decide +kernel
theorem d_Lm_digest_138 : decode c_Lm_digest 138 = .ok (.iload_n 3, 1) := by decide +kernel
theorem d_Lm_digest_139 : decode c_Lm_digest 139 = .ok (.invokevirtual 167, 3) := by decide +kernel
theorem d_Lm_digest_142 : decode c_Lm_digest 142 = .ok (.i2l, 1) := by decide +kernel
theorem d_Lm_digest_143 : decode c_Lm_digest 143 = .ok (.ladd, 1) := by decide +kernel
theorem d_Lm_digest_144 : decode c_Lm_digest 144 = .ok (.lstore_n 1, 1) := by decide +kernel
theorem d_Lm_digest_145 : decode c_Lm_digest 145 = .ok (.iinc 3 1, 3) := by decide +kernel
theorem d_Lm_digest_148 : decode c_Lm_digest 148 = .ok (.goto (-21), 3) := by decide +kernel
theorem d_Lm_digest_151 : decode c_Lm_digest 151 = .ok (.ldc2_w 267, 3) := by decide +kernel
theorem d_Lm_digest_154 : decode c_Lm_digest 154 = .ok (.lload_n 1, 1) := by decide +kernel
theorem d_Lm_digest_155 : decode c_Lm_digest 155 = .ok (.lmul, 1) := by decide +kernel
theorem d_Lm_digest_156 : decode c_Lm_digest 156 = .ok (.aload_n 0, 1) := by decide +kernel
theorem d_Lm_digest_157 : decode c_Lm_digest 157 = .ok (.iconst 1, 1) := by decide +kernel
theorem d_Lm_digest_158 : decode c_Lm_digest 158 = .ok (.iconst 1, 1) := by decide +kernel
theorem d_Lm_digest_159 : decode c_Lm_digest 159 = .ok (.iconst 0, 1) := by decide +kernel
theorem d_Lm_digest_160 : decode c_Lm_digest 160 = .ok (.invokevirtual 281, 3) := by decide +kernel
theorem d_Lm_digest_163 : decode c_Lm_digest 163 = .ok (.ladd, 1) := by decide +kernel
theorem d_Lm_digest_164 : decode c_Lm_digest 164 = .ok (.lstore_n 1, 1) := by decide +kernel
theorem d_Lm_digest_165 : decode c_Lm_digest 165 = .ok (.ldc2_w 267, 3) := by decide +kernel
theorem d_Lm_digest_168 : decode c_Lm_digest 168 = .ok (.lload_n 1, 1) := by decide +kernel
theorem d_Lm_digest_169 : decode c_Lm_digest 169 = .ok (.lmul, 1) := by decide +kernel
theorem d_Lm_digest_170 : decode c_Lm_digest 170 = .ok (.aload_n 0, 1) := by decide +kernel
theorem d_Lm_digest_171 : decode c_Lm_digest 171 = .ok (.iconst 1, 1) := by decide +kernel
theorem d_Lm_digest_172 : decode c_Lm_digest 172 = .ok (.iconst 1, 1) := by decide +kernel
theorem d_Lm_digest_173 : decode c_Lm_digest 173 = .ok (.iconst 1, 1) := by decide +kernel
theorem d_Lm_digest_174 : decode c_Lm_digest 174 = .ok (.invokevirtual 281, 3) := by decide +kernel
theorem d_Lm_digest_177 : decode c_Lm_digest 177 = .ok (.ladd, 1) := by decide +kernel
theorem d_Lm_digest_178 : decode c_Lm_digest 178 = .ok (.lstore_n 1, 1) := by decide +kernel
theorem d_Lm_digest_179 : decode c_Lm_digest 179 = .ok (.ldc2_w 267, 3) := by decide +kernel
theorem d_Lm_digest_182 : decode c_Lm_digest 182 = .ok (.lload_n 1, 1) := by decide +kernel
theorem d_Lm_digest_183 : decode c_Lm_digest 183 = .ok (.lmul, 1) := by decide +kernel
theorem d_Lm_digest_184 : decode c_Lm_digest 184 = .ok (.aload_n 0, 1) := by decide +kernel
theorem d_Lm_digest_185 : decode c_Lm_digest 185 = .ok (.iconst 3, 1) := by decide +kernel
theorem d_Lm_digest_186 : decode c_Lm_digest 186 = .ok (.iconst 2, 1) := by decide +kernel
theorem d_Lm_digest_187 : decode c_Lm_digest 187 = .ok (.iconst 0, 1) := by decide +kernel
theorem d_Lm_digest_188 : decode c_Lm_digest 188 = .ok (.invokevirtual 281, 3) := by decide +kernel
theorem d_Lm_digest_191 : decode c_Lm_digest 191 = .ok (.ladd, 1) := by decide +kernel
theorem d_Lm_digest_192 : decode c_Lm_digest 192 = .ok (.lstore_n 1, 1) := by decide +kernel
theorem d_Lm_digest_193 : decode c_Lm_digest 193 = .ok (.ldc2_w 267, 3) := by decide +kernel
theorem d_Lm_digest_196 : decode c_Lm_digest 196 = .ok (.lload_n 1, 1) := by decide +kernel
theorem d_Lm_digest_197 : decode c_Lm_digest 197 = .ok (.lmul, 1) := by decide +kernel
theorem d_Lm_digest_198 : decode c_Lm_digest 198 = .ok (.aload_n 0, 1) := by decide +kernel
theorem d_Lm_digest_199 : decode c_Lm_digest 199 = .ok (.iconst 3, 1) := by decide +kernel
theorem d_Lm_digest_200 : decode c_Lm_digest 200 = .ok (.iconst 2, 1) := by decide +kernel
theorem d_Lm_digest_201 : decode c_Lm_digest 201 = .ok (.iconst 1, 1) := by decide +kernel
theorem d_Lm_digest_202 : decode c_Lm_digest 202 = .ok (.invokevirtual 281, 3) := by decide +kernel
theorem d_Lm_digest_205 : decode c_Lm_digest 205 = .ok (.ladd, 1) := by decide +kernel
theorem d_Lm_digest_206 : decode c_Lm_digest 206 = .ok (.lstore_n 1, 1) := by decide +kernel
theorem d_Lm_digest_207 : decode c_Lm_digest 207 = .ok (.aload_n 0, 1) := by decide +kernel
theorem d_Lm_digest_208 : decode c_Lm_digest 208 = .ok (.lload_n 1, 1) := by decide +kernel
theorem d_Lm_digest_209 : decode c_Lm_digest 209 = .ok (.invokevirtual 285, 3) := by decide +kernel
theorem d_Lm_digest_212 : decode c_Lm_digest 212 = .ok (.lreturn, 1) := by decide +kernel
set_option maxRecDepth 20000 in
theorem w_Lm_digest_127b {X : HX} {ad : Nat → Nat} {I : HI} {J : HJ} {N : HN} {r : HI × HJ × HN × Int64} {k127 : HI → HJ → HN → Int64 → Int32 → Option (HI × HJ × HN × Int64)} {a0 : Nat} {x1 : Int64} {x3 : Int32} (C : Cx X c_Lm_digest RX10 4 (some .long) rm_Lm_digest) (ha0 : gk Tc nC a0 (0, 10))
    (hk127 : ∀ (I : HI) (J : HJ) (N : HN) (x1 : Int64) (x3 : Int32), k127 I J N x1 x3 = some r → G Tc X ad nC 0 0 I J N (gE X Tc ad nC (r.1, r.2.1, r.2.2.1, fun _ => some (.long r.2.2.2))) 127 4 [(0, .ref (ad a0)), (1, .long x1), (3, .int x3)] [])
    (h : Lm_digest_127b a0 k127 I J N x1 x3 = some r) : G Tc X ad nC 0 0 I J N (gE X Tc ad nC (r.1, r.2.1, r.2.2.1, fun _ => some (.long r.2.2.2))) 127 4 [(0, .ref (ad a0)), (1, .long x1), (3, .int x3)] [] := by
  refine g_iload_n (pc := 127) C d_Lm_digest_127 rfl 2 rfl ?_
  refine g_iconst (pc := 128) C (4 : Int32) d_Lm_digest_128 (by decide) ?_
  refine g_icmp_ge (pc := 129) C 151 d_Lm_digest_129 rfl (fun e1 => ?_) (fun e1 => ?_)
  · have h := o_pos e1 h
    refine g_ldc2 (pc := 151) C kc_Lm_267 d_Lm_digest_151 ?_
    refine g_lload_n (pc := 154) C d_Lm_digest_154 rfl 1 rfl ?_
    refine g_lmul (pc := 155) C d_Lm_digest_155 ?_
    refine g_aload_n (pc := 156) C d_Lm_digest_156 rfl 0 rfl ?_
    refine g_iconst (pc := 157) C (1 : Int32) d_Lm_digest_157 (by decide) ?_
    refine g_iconst (pc := 158) C (1 : Int32) d_Lm_digest_158 (by decide) ?_
    refine g_iconst (pc := 159) C (0 : Int32) d_Lm_digest_159 (by decide) ?_
    obtain ⟨J2, r3, hc4, h⟩ := o_bn2 h
    refine g_V (pc := 160) (rest := [.long ((31 : Int64) * x1)]) C (k_Lm_reactance (xl X) ha0 hc4) sm_Lm_reactance ml_Lm_281 im_Lm_reactance se_Lm_reactance gcX10 rfl ha0 ⟨rfl, rfl, Nat.le_of_ble_eq_true rfl, Nat.le_of_ble_eq_true rfl⟩ ⟨Nat.zero_le _, Nat.zero_le _⟩ rfl rfl (Nat.le_of_ble_eq_true rfl) d_Lm_digest_160 [.long r3, .long ((31 : Int64) * x1)] rfl ?_
    refine g_ladd (pc := 163) C d_Lm_digest_163 ?_
    obtain ⟨v5, ev5, h⟩ := o_bd h
    refine g_topl ev5 ?_
    refine g_lstore_n (pc := 164) (lv' := [(1, .long v5), (0, .ref (ad a0)), (3, .int x3)]) C d_Lm_digest_164 rfl (by decide) rfl ?_
    refine g_ldc2 (pc := 165) C kc_Lm_267 d_Lm_digest_165 ?_
    refine g_lload_n (pc := 168) C d_Lm_digest_168 rfl 0 rfl ?_
    refine g_lmul (pc := 169) C d_Lm_digest_169 ?_
    refine g_aload_n (pc := 170) C d_Lm_digest_170 rfl 1 rfl ?_
    refine g_iconst (pc := 171) C (1 : Int32) d_Lm_digest_171 (by decide) ?_
    refine g_iconst (pc := 172) C (1 : Int32) d_Lm_digest_172 (by decide) ?_
    refine g_iconst (pc := 173) C (1 : Int32) d_Lm_digest_173 (by decide) ?_
    obtain ⟨J6, r7, hc8, h⟩ := o_bn2 h
    refine g_V (pc := 174) (rest := [.long ((31 : Int64) * v5)]) C (k_Lm_reactance (xl X) ha0 hc8) sm_Lm_reactance ml_Lm_281 im_Lm_reactance se_Lm_reactance gcX10 rfl ha0 ⟨rfl, rfl, Nat.le_of_ble_eq_true rfl, Nat.le_of_ble_eq_true rfl⟩ ⟨Nat.zero_le _, Nat.zero_le _⟩ rfl rfl (Nat.le_of_ble_eq_true rfl) d_Lm_digest_174 [.long r7, .long ((31 : Int64) * v5)] rfl ?_
    refine g_ladd (pc := 177) C d_Lm_digest_177 ?_
    obtain ⟨v9, ev9, h⟩ := o_bd h
    refine g_topl ev9 ?_
    refine g_lstore_n (pc := 178) (lv' := [(1, .long v9), (0, .ref (ad a0)), (3, .int x3)]) C d_Lm_digest_178 rfl (by decide) rfl ?_
    refine g_ldc2 (pc := 179) C kc_Lm_267 d_Lm_digest_179 ?_
    refine g_lload_n (pc := 182) C d_Lm_digest_182 rfl 0 rfl ?_
    refine g_lmul (pc := 183) C d_Lm_digest_183 ?_
    refine g_aload_n (pc := 184) C d_Lm_digest_184 rfl 1 rfl ?_
    refine g_iconst (pc := 185) C (3 : Int32) d_Lm_digest_185 (by decide) ?_
    refine g_iconst (pc := 186) C (2 : Int32) d_Lm_digest_186 (by decide) ?_
    refine g_iconst (pc := 187) C (0 : Int32) d_Lm_digest_187 (by decide) ?_
    obtain ⟨J10, r11, hc12, h⟩ := o_bn2 h
    refine g_V (pc := 188) (rest := [.long ((31 : Int64) * v9)]) C (k_Lm_reactance (xl X) ha0 hc12) sm_Lm_reactance ml_Lm_281 im_Lm_reactance se_Lm_reactance gcX10 rfl ha0 ⟨rfl, rfl, Nat.le_of_ble_eq_true rfl, Nat.le_of_ble_eq_true rfl⟩ ⟨Nat.zero_le _, Nat.zero_le _⟩ rfl rfl (Nat.le_of_ble_eq_true rfl) d_Lm_digest_188 [.long r11, .long ((31 : Int64) * v9)] rfl ?_
    refine g_ladd (pc := 191) C d_Lm_digest_191 ?_
    obtain ⟨v13, ev13, h⟩ := o_bd h
    refine g_topl ev13 ?_
    refine g_lstore_n (pc := 192) (lv' := [(1, .long v13), (0, .ref (ad a0)), (3, .int x3)]) C d_Lm_digest_192 rfl (by decide) rfl ?_
    refine g_ldc2 (pc := 193) C kc_Lm_267 d_Lm_digest_193 ?_
    refine g_lload_n (pc := 196) C d_Lm_digest_196 rfl 0 rfl ?_
    refine g_lmul (pc := 197) C d_Lm_digest_197 ?_
    refine g_aload_n (pc := 198) C d_Lm_digest_198 rfl 1 rfl ?_
    refine g_iconst (pc := 199) C (3 : Int32) d_Lm_digest_199 (by decide) ?_
    refine g_iconst (pc := 200) C (2 : Int32) d_Lm_digest_200 (by decide) ?_
    refine g_iconst (pc := 201) C (1 : Int32) d_Lm_digest_201 (by decide) ?_
    obtain ⟨J14, r15, hc16, h⟩ := o_bn2 h
    refine g_V (pc := 202) (rest := [.long ((31 : Int64) * v13)]) C (k_Lm_reactance (xl X) ha0 hc16) sm_Lm_reactance ml_Lm_281 im_Lm_reactance se_Lm_reactance gcX10 rfl ha0 ⟨rfl, rfl, Nat.le_of_ble_eq_true rfl, Nat.le_of_ble_eq_true rfl⟩ ⟨Nat.zero_le _, Nat.zero_le _⟩ rfl rfl (Nat.le_of_ble_eq_true rfl) d_Lm_digest_202 [.long r15, .long ((31 : Int64) * v13)] rfl ?_
    refine g_ladd (pc := 205) C d_Lm_digest_205 ?_
    obtain ⟨v17, ev17, h⟩ := o_bd h
    refine g_topl ev17 ?_
    refine g_lstore_n (pc := 206) (lv' := [(1, .long v17), (0, .ref (ad a0)), (3, .int x3)]) C d_Lm_digest_206 rfl (by decide) rfl ?_
    refine g_aload_n (pc := 207) C d_Lm_digest_207 rfl 1 rfl ?_
    refine g_lload_n (pc := 208) C d_Lm_digest_208 rfl 0 rfl ?_
    obtain ⟨J18, r19, hc20, h⟩ := o_bn2 h
    refine g_V (pc := 209) (rest := []) C (k_Lm_digestOfRows (xl X) ha0 hc20) sm_Lm_digestOfRows ml_Lm_285 im_Lm_digestOfRows se_Lm_digestOfRows gcX10 rfl ha0 ⟨rfl, rfl, Nat.le_of_ble_eq_true rfl, Nat.le_of_ble_eq_true rfl⟩ ⟨Nat.zero_le _, Nat.zero_le _⟩ rfl rfl (Nat.le_of_ble_eq_true rfl) d_Lm_digest_209 [.long r19] rfl ?_
    obtain rfl := o_ret h
    exact g_lret (pc := 212) C d_Lm_digest_212
  · have h := o_neg e1 h
    refine g_ldc2 (pc := 132) C kc_Lm_267 d_Lm_digest_132 ?_
    refine g_lload_n (pc := 135) C d_Lm_digest_135 rfl 1 rfl ?_
    refine g_lmul (pc := 136) C d_Lm_digest_136 ?_
    refine g_aload_n (pc := 137) C d_Lm_digest_137 rfl 0 rfl ?_
    refine g_iload_n (pc := 138) C d_Lm_digest_138 rfl 2 rfl ?_
    obtain ⟨I21, J22, N23, r24, hc25, h⟩ := o_bn4 h
    refine g_V (pc := 139) (rest := [.long ((31 : Int64) * x1)]) C (k_Lm_would (xl X) ha0 hc25) sm_Lm_would ml_Lm_167 im_Lm_would se_Lm_would gcX10 rfl ha0 ⟨rfl, rfl, Nat.le_of_ble_eq_true rfl, Nat.le_of_ble_eq_true rfl⟩ ⟨Nat.zero_le _, Nat.zero_le _⟩ rfl rfl (Nat.le_of_ble_eq_true rfl) d_Lm_digest_139 [.int r24, .long ((31 : Int64) * x1)] rfl ?_
    refine g_i2l (pc := 142) C d_Lm_digest_142 ?_
    refine g_ladd (pc := 143) C d_Lm_digest_143 ?_
    obtain ⟨v26, ev26, h⟩ := o_bd h
    refine g_topl ev26 ?_
    refine g_lstore_n (pc := 144) (lv' := [(1, .long v26), (0, .ref (ad a0)), (3, .int x3)]) C d_Lm_digest_144 rfl (by decide) rfl ?_
    refine g_iinc (pc := 145) (q := 2) (lv' := [(3, .int (x3 + 1)), (1, .long v26), (0, .ref (ad a0))]) C d_Lm_digest_145 rfl rfl (by decide) rfl ?_
    refine g_goto (pc := 148) C 127 d_Lm_digest_148 rfl ?_
    refine g_lv [2, 1, 0] rfl ?_
    exact hk127 _ _ _ _ _ h
set_option maxRecDepth 20000 in
theorem w_Lm_digest_127 {X : HX} {ad : Nat → Nat} {r : HI × HJ × HN × Int64} {a0 : Nat} (C : Cx X c_Lm_digest RX10 4 (some .long) rm_Lm_digest) (ha0 : gk Tc nC a0 (0, 10)) : ∀ (n : Nat) (I : HI) (J : HJ) (N : HN) (x1 : Int64) (x3 : Int32), Lm_digest_127 a0 n I J N x1 x3 = some r → G Tc X ad nC 0 0 I J N (gE X Tc ad nC (r.1, r.2.1, r.2.2.1, fun _ => some (.long r.2.2.2))) 127 4 [(0, .ref (ad a0)), (1, .long x1), (3, .int x3)] [] := by
  intro n
  induction n with
  | zero => intro I J N x1 x3 h; cases h
  | succ n ih => intro I J N x1 x3 h; exact w_Lm_digest_127b C ha0 ih h
set_option maxRecDepth 20000 in
theorem w_Lm_digest_101b {X : HX} {ad : Nat → Nat} {I : HI} {J : HJ} {N : HN} {r : HI × HJ × HN × Int64} {k101 : HI → HJ → HN → Int64 → Int32 → Option (HI × HJ × HN × Int64)} {a0 : Nat} {x1 : Int64} {x3 : Int32} (C : Cx X c_Lm_digest RX10 4 (some .long) rm_Lm_digest) (ha0 : gk Tc nC a0 (0, 10))
    (hk101 : ∀ (I : HI) (J : HJ) (N : HN) (x1 : Int64) (x3 : Int32), k101 I J N x1 x3 = some r → G Tc X ad nC 0 0 I J N (gE X Tc ad nC (r.1, r.2.1, r.2.2.1, fun _ => some (.long r.2.2.2))) 101 4 [(0, .ref (ad a0)), (1, .long x1), (3, .int x3)] [])
    (h : Lm_digest_101b a0 k101 I J N x1 x3 = some r) : G Tc X ad nC 0 0 I J N (gE X Tc ad nC (r.1, r.2.1, r.2.2.1, fun _ => some (.long r.2.2.2))) 101 4 [(0, .ref (ad a0)), (1, .long x1), (3, .int x3)] [] := by
  refine g_iload_n (pc := 101) C d_Lm_digest_101 rfl 2 rfl ?_
  refine g_iconst (pc := 102) C (4 : Int32) d_Lm_digest_102 (by decide) ?_
  refine g_icmp_gt (pc := 103) C 125 d_Lm_digest_103 rfl (fun e1 => ?_) (fun e1 => ?_)
  · have h := o_pos e1 h
    refine g_iconst (pc := 125) C (0 : Int32) d_Lm_digest_125 (by decide) ?_
    refine g_istore_n (pc := 126) (lv' := [(3, .int (0 : Int32)), (0, .ref (ad a0)), (1, .long x1)]) C d_Lm_digest_126 rfl (by decide) rfl ?_
    refine g_lv [1, 2, 0] rfl ?_
    exact w_Lm_digest_127 C ha0 _ _ _ _ _ _ h
  · have h := o_neg e1 h
    refine g_ldc2 (pc := 106) C kc_Lm_267 d_Lm_digest_106 ?_
    refine g_lload_n (pc := 109) C d_Lm_digest_109 rfl 1 rfl ?_
    refine g_lmul (pc := 110) C d_Lm_digest_110 ?_
    refine g_aload_n (pc := 111) C d_Lm_digest_111 rfl 0 rfl ?_
    refine g_iload_n (pc := 112) C d_Lm_digest_112 rfl 2 rfl ?_
    obtain ⟨r2, hc3, h⟩ := o_bn1 h
    refine g_V (pc := 113) (rest := [.long ((31 : Int64) * x1)]) C (k_Lm_info (xl X) ha0 hc3) sm_Lm_info ml_Lm_278 im_Lm_info se_Lm_info gcX10 rfl ha0 ⟨rfl, rfl, Nat.le_of_ble_eq_true rfl, Nat.le_of_ble_eq_true rfl⟩ ⟨Nat.zero_le _, Nat.zero_le _⟩ rfl rfl (Nat.le_of_ble_eq_true rfl) d_Lm_digest_113 [.int r2, .long ((31 : Int64) * x1)] rfl ?_
    refine g_i2l (pc := 116) C d_Lm_digest_116 ?_
    refine g_ladd (pc := 117) C d_Lm_digest_117 ?_
    obtain ⟨v4, ev4, h⟩ := o_bd h
    refine g_topl ev4 ?_
    refine g_lstore_n (pc := 118) (lv' := [(1, .long v4), (0, .ref (ad a0)), (3, .int x3)]) C d_Lm_digest_118 rfl (by decide) rfl ?_
    refine g_iinc (pc := 119) (q := 2) (lv' := [(3, .int (x3 + 1)), (1, .long v4), (0, .ref (ad a0))]) C d_Lm_digest_119 rfl rfl (by decide) rfl ?_
    refine g_goto (pc := 122) C 101 d_Lm_digest_122 rfl ?_
    refine g_lv [2, 1, 0] rfl ?_
    exact hk101 _ _ _ _ _ h
set_option maxRecDepth 20000 in
theorem w_Lm_digest_101 {X : HX} {ad : Nat → Nat} {r : HI × HJ × HN × Int64} {a0 : Nat} (C : Cx X c_Lm_digest RX10 4 (some .long) rm_Lm_digest) (ha0 : gk Tc nC a0 (0, 10)) : ∀ (n : Nat) (I : HI) (J : HJ) (N : HN) (x1 : Int64) (x3 : Int32), Lm_digest_101 a0 n I J N x1 x3 = some r → G Tc X ad nC 0 0 I J N (gE X Tc ad nC (r.1, r.2.1, r.2.2.1, fun _ => some (.long r.2.2.2))) 101 4 [(0, .ref (ad a0)), (1, .long x1), (3, .int x3)] [] := by
  intro n
  induction n with
  | zero => intro I J N x1 x3 h; cases h
  | succ n ih => intro I J N x1 x3 h; exact w_Lm_digest_101b C ha0 ih h
set_option maxRecDepth 20000 in
theorem w_Lm_digest_33b {X : HX} {ad : Nat → Nat} {I : HI} {J : HJ} {N : HN} {r : HI × HJ × HN × Int64} {k33 : HI → HJ → HN → Int64 → Int32 → Option (HI × HJ × HN × Int64)} {a0 : Nat} {x1 : Int64} {x3 : Int32} (C : Cx X c_Lm_digest RX10 4 (some .long) rm_Lm_digest) (ha0 : gk Tc nC a0 (0, 10))
    (hk33 : ∀ (I : HI) (J : HJ) (N : HN) (x1 : Int64) (x3 : Int32), k33 I J N x1 x3 = some r → G Tc X ad nC 0 0 I J N (gE X Tc ad nC (r.1, r.2.1, r.2.2.1, fun _ => some (.long r.2.2.2))) 33 4 [(0, .ref (ad a0)), (1, .long x1), (3, .int x3)] [])
    (h : Lm_digest_33b a0 k33 I J N x1 x3 = some r) : G Tc X ad nC 0 0 I J N (gE X Tc ad nC (r.1, r.2.1, r.2.2.1, fun _ => some (.long r.2.2.2))) 33 4 [(0, .ref (ad a0)), (1, .long x1), (3, .int x3)] [] := by
  refine g_iload_n (pc := 33) C d_Lm_digest_33 rfl 2 rfl ?_
  refine g_bipush (pc := 34) C (7 : Int32) d_Lm_digest_34 (by decide) ?_
  refine g_icmp_ge (pc := 36) C 99 d_Lm_digest_36 rfl (fun e1 => ?_) (fun e1 => ?_)
  · have h := o_pos e1 h
    refine g_iconst (pc := 99) C (0 : Int32) d_Lm_digest_99 (by decide) ?_
    refine g_istore_n (pc := 100) (lv' := [(3, .int (0 : Int32)), (0, .ref (ad a0)), (1, .long x1)]) C d_Lm_digest_100 rfl (by decide) rfl ?_
    refine g_lv [1, 2, 0] rfl ?_
    exact w_Lm_digest_101 C ha0 _ _ _ _ _ _ h
  · have h := o_neg e1 h
    refine g_ldc2 (pc := 39) C kc_Lm_267 d_Lm_digest_39 ?_
    refine g_lload_n (pc := 42) C d_Lm_digest_42 rfl 1 rfl ?_
    refine g_lmul (pc := 43) C d_Lm_digest_43 ?_
    refine g_aload_n (pc := 44) C d_Lm_digest_44 rfl 0 rfl ?_
    refine g_iconst (pc := 45) C (0 : Int32) d_Lm_digest_45 (by decide) ?_
    refine g_iload_n (pc := 46) C d_Lm_digest_46 rfl 2 rfl ?_
    obtain ⟨r2, hc3, h⟩ := o_bn1 h
    refine g_V (pc := 47) (rest := [.long ((31 : Int64) * x1)]) C (k_Lm_told (xl X) ha0 hc3) sm_Lm_told ml_Lm_272 im_Lm_told se_Lm_told gcX10 rfl ha0 ⟨rfl, rfl, Nat.le_of_ble_eq_true rfl, Nat.le_of_ble_eq_true rfl⟩ ⟨Nat.zero_le _, Nat.zero_le _⟩ rfl rfl (Nat.le_of_ble_eq_true rfl) d_Lm_digest_47 [.int r2, .long ((31 : Int64) * x1)] rfl ?_
    refine g_i2l (pc := 50) C d_Lm_digest_50 ?_
    refine g_ladd (pc := 51) C d_Lm_digest_51 ?_
    obtain ⟨v4, ev4, h⟩ := o_bd h
    refine g_topl ev4 ?_
    refine g_lstore_n (pc := 52) (lv' := [(1, .long v4), (0, .ref (ad a0)), (3, .int x3)]) C d_Lm_digest_52 rfl (by decide) rfl ?_
    refine g_ldc2 (pc := 53) C kc_Lm_267 d_Lm_digest_53 ?_
    refine g_lload_n (pc := 56) C d_Lm_digest_56 rfl 0 rfl ?_
    refine g_lmul (pc := 57) C d_Lm_digest_57 ?_
    refine g_aload_n (pc := 58) C d_Lm_digest_58 rfl 1 rfl ?_
    refine g_iconst (pc := 59) C (1 : Int32) d_Lm_digest_59 (by decide) ?_
    refine g_iload_n (pc := 60) C d_Lm_digest_60 rfl 2 rfl ?_
    obtain ⟨r5, hc6, h⟩ := o_bn1 h
    refine g_V (pc := 61) (rest := [.long ((31 : Int64) * v4)]) C (k_Lm_told (xl X) ha0 hc6) sm_Lm_told ml_Lm_272 im_Lm_told se_Lm_told gcX10 rfl ha0 ⟨rfl, rfl, Nat.le_of_ble_eq_true rfl, Nat.le_of_ble_eq_true rfl⟩ ⟨Nat.zero_le _, Nat.zero_le _⟩ rfl rfl (Nat.le_of_ble_eq_true rfl) d_Lm_digest_61 [.int r5, .long ((31 : Int64) * v4)] rfl ?_
    refine g_i2l (pc := 64) C d_Lm_digest_64 ?_
    refine g_ladd (pc := 65) C d_Lm_digest_65 ?_
    obtain ⟨v7, ev7, h⟩ := o_bd h
    refine g_topl ev7 ?_
    refine g_lstore_n (pc := 66) (lv' := [(1, .long v7), (0, .ref (ad a0)), (3, .int x3)]) C d_Lm_digest_66 rfl (by decide) rfl ?_
    refine g_ldc2 (pc := 67) C kc_Lm_267 d_Lm_digest_67 ?_
    refine g_lload_n (pc := 70) C d_Lm_digest_70 rfl 0 rfl ?_
    refine g_lmul (pc := 71) C d_Lm_digest_71 ?_
    refine g_aload_n (pc := 72) C d_Lm_digest_72 rfl 1 rfl ?_
    refine g_iconst (pc := 73) C (0 : Int32) d_Lm_digest_73 (by decide) ?_
    refine g_iload_n (pc := 74) C d_Lm_digest_74 rfl 2 rfl ?_
    obtain ⟨r8, hc9, h⟩ := o_bn1 h
    refine g_V (pc := 75) (rest := [.long ((31 : Int64) * v7)]) C (k_Lm_fold (xl X) ha0 hc9) sm_Lm_fold ml_Lm_275 im_Lm_fold se_Lm_fold gcX10 rfl ha0 ⟨rfl, rfl, Nat.le_of_ble_eq_true rfl, Nat.le_of_ble_eq_true rfl⟩ ⟨Nat.zero_le _, Nat.zero_le _⟩ rfl rfl (Nat.le_of_ble_eq_true rfl) d_Lm_digest_75 [.long r8, .long ((31 : Int64) * v7)] rfl ?_
    refine g_ladd (pc := 78) C d_Lm_digest_78 ?_
    obtain ⟨v10, ev10, h⟩ := o_bd h
    refine g_topl ev10 ?_
    refine g_lstore_n (pc := 79) (lv' := [(1, .long v10), (0, .ref (ad a0)), (3, .int x3)]) C d_Lm_digest_79 rfl (by decide) rfl ?_
    refine g_ldc2 (pc := 80) C kc_Lm_267 d_Lm_digest_80 ?_
    refine g_lload_n (pc := 83) C d_Lm_digest_83 rfl 0 rfl ?_
    refine g_lmul (pc := 84) C d_Lm_digest_84 ?_
    refine g_aload_n (pc := 85) C d_Lm_digest_85 rfl 1 rfl ?_
    refine g_iconst (pc := 86) C (1 : Int32) d_Lm_digest_86 (by decide) ?_
    refine g_iload_n (pc := 87) C d_Lm_digest_87 rfl 2 rfl ?_
    obtain ⟨r11, hc12, h⟩ := o_bn1 h
    refine g_V (pc := 88) (rest := [.long ((31 : Int64) * v10)]) C (k_Lm_fold (xl X) ha0 hc12) sm_Lm_fold ml_Lm_275 im_Lm_fold se_Lm_fold gcX10 rfl ha0 ⟨rfl, rfl, Nat.le_of_ble_eq_true rfl, Nat.le_of_ble_eq_true rfl⟩ ⟨Nat.zero_le _, Nat.zero_le _⟩ rfl rfl (Nat.le_of_ble_eq_true rfl) d_Lm_digest_88 [.long r11, .long ((31 : Int64) * v10)] rfl ?_
    refine g_ladd (pc := 91) C d_Lm_digest_91 ?_
    obtain ⟨v13, ev13, h⟩ := o_bd h
    refine g_topl ev13 ?_
    refine g_lstore_n (pc := 92) (lv' := [(1, .long v13), (0, .ref (ad a0)), (3, .int x3)]) C d_Lm_digest_92 rfl (by decide) rfl ?_
    refine g_iinc (pc := 93) (q := 2) (lv' := [(3, .int (x3 + 1)), (1, .long v13), (0, .ref (ad a0))]) C d_Lm_digest_93 rfl rfl (by decide) rfl ?_
    refine g_goto (pc := 96) C 33 d_Lm_digest_96 rfl ?_
    refine g_lv [2, 1, 0] rfl ?_
    exact hk33 _ _ _ _ _ h
set_option maxRecDepth 20000 in
theorem w_Lm_digest_33 {X : HX} {ad : Nat → Nat} {r : HI × HJ × HN × Int64} {a0 : Nat} (C : Cx X c_Lm_digest RX10 4 (some .long) rm_Lm_digest) (ha0 : gk Tc nC a0 (0, 10)) : ∀ (n : Nat) (I : HI) (J : HJ) (N : HN) (x1 : Int64) (x3 : Int32), Lm_digest_33 a0 n I J N x1 x3 = some r → G Tc X ad nC 0 0 I J N (gE X Tc ad nC (r.1, r.2.1, r.2.2.1, fun _ => some (.long r.2.2.2))) 33 4 [(0, .ref (ad a0)), (1, .long x1), (3, .int x3)] [] := by
  intro n
  induction n with
  | zero => intro I J N x1 x3 h; cases h
  | succ n ih => intro I J N x1 x3 h; exact w_Lm_digest_33b C ha0 ih h
set_option maxRecDepth 20000 in
theorem w_Lm_digest_6b {X : HX} {ad : Nat → Nat} {I : HI} {J : HJ} {N : HN} {r : HI × HJ × HN × Int64} {k6 : HI → HJ → HN → Int64 → Int32 → Option (HI × HJ × HN × Int64)} {a0 : Nat} {x1 : Int64} {x3 : Int32} (C : Cx X c_Lm_digest RX10 4 (some .long) rm_Lm_digest) (ha0 : gk Tc nC a0 (0, 10))
    (hk6 : ∀ (I : HI) (J : HJ) (N : HN) (x1 : Int64) (x3 : Int32), k6 I J N x1 x3 = some r → G Tc X ad nC 0 0 I J N (gE X Tc ad nC (r.1, r.2.1, r.2.2.1, fun _ => some (.long r.2.2.2))) 6 4 [(0, .ref (ad a0)), (1, .long x1), (3, .int x3)] [])
    (h : Lm_digest_6b a0 k6 I J N x1 x3 = some r) : G Tc X ad nC 0 0 I J N (gE X Tc ad nC (r.1, r.2.1, r.2.2.1, fun _ => some (.long r.2.2.2))) 6 4 [(0, .ref (ad a0)), (1, .long x1), (3, .int x3)] [] := by
  refine g_iload_n (pc := 6) C d_Lm_digest_6 rfl 2 rfl ?_
  refine g_bipush (pc := 7) C (7 : Int32) d_Lm_digest_7 (by decide) ?_
  refine g_icmp_gt (pc := 9) C 31 d_Lm_digest_9 rfl (fun e1 => ?_) (fun e1 => ?_)
  · have h := o_pos e1 h
    refine g_iconst (pc := 31) C (0 : Int32) d_Lm_digest_31 (by decide) ?_
    refine g_istore_n (pc := 32) (lv' := [(3, .int (0 : Int32)), (0, .ref (ad a0)), (1, .long x1)]) C d_Lm_digest_32 rfl (by decide) rfl ?_
    refine g_lv [1, 2, 0] rfl ?_
    exact w_Lm_digest_33 C ha0 _ _ _ _ _ _ h
  · have h := o_neg e1 h
    refine g_ldc2 (pc := 12) C kc_Lm_267 d_Lm_digest_12 ?_
    refine g_lload_n (pc := 15) C d_Lm_digest_15 rfl 1 rfl ?_
    refine g_lmul (pc := 16) C d_Lm_digest_16 ?_
    refine g_aload_n (pc := 17) C d_Lm_digest_17 rfl 0 rfl ?_
    refine g_iload_n (pc := 18) C d_Lm_digest_18 rfl 2 rfl ?_
    obtain ⟨r2, hc3, h⟩ := o_bn1 h
    refine g_V (pc := 19) (rest := [.long ((31 : Int64) * x1)]) C (k_Lm_count (xl X) ha0 hc3) sm_Lm_count ml_Lm_269 im_Lm_count se_Lm_count gcX10 rfl ha0 ⟨rfl, rfl, Nat.le_of_ble_eq_true rfl, Nat.le_of_ble_eq_true rfl⟩ ⟨Nat.zero_le _, Nat.zero_le _⟩ rfl rfl (Nat.le_of_ble_eq_true rfl) d_Lm_digest_19 [.int r2, .long ((31 : Int64) * x1)] rfl ?_
    refine g_i2l (pc := 22) C d_Lm_digest_22 ?_
    refine g_ladd (pc := 23) C d_Lm_digest_23 ?_
    obtain ⟨v4, ev4, h⟩ := o_bd h
    refine g_topl ev4 ?_
    refine g_lstore_n (pc := 24) (lv' := [(1, .long v4), (0, .ref (ad a0)), (3, .int x3)]) C d_Lm_digest_24 rfl (by decide) rfl ?_
    refine g_iinc (pc := 25) (q := 2) (lv' := [(3, .int (x3 + 1)), (1, .long v4), (0, .ref (ad a0))]) C d_Lm_digest_25 rfl rfl (by decide) rfl ?_
    refine g_goto (pc := 28) C 6 d_Lm_digest_28 rfl ?_
    refine g_lv [2, 1, 0] rfl ?_
    exact hk6 _ _ _ _ _ h
set_option maxRecDepth 20000 in
theorem w_Lm_digest_6 {X : HX} {ad : Nat → Nat} {r : HI × HJ × HN × Int64} {a0 : Nat} (C : Cx X c_Lm_digest RX10 4 (some .long) rm_Lm_digest) (ha0 : gk Tc nC a0 (0, 10)) : ∀ (n : Nat) (I : HI) (J : HJ) (N : HN) (x1 : Int64) (x3 : Int32), Lm_digest_6 a0 n I J N x1 x3 = some r → G Tc X ad nC 0 0 I J N (gE X Tc ad nC (r.1, r.2.1, r.2.2.1, fun _ => some (.long r.2.2.2))) 6 4 [(0, .ref (ad a0)), (1, .long x1), (3, .int x3)] [] := by
  intro n
  induction n with
  | zero => intro I J N x1 x3 h; cases h
  | succ n ih => intro I J N x1 x3 h; exact w_Lm_digest_6b C ha0 ih h
set_option maxRecDepth 20000 in
theorem w_Lm_digest_0 {X : HX} {ad : Nat → Nat} {I : HI} {J : HJ} {N : HN} {r : HI × HJ × HN × Int64} {a0 : Nat} (C : Cx X c_Lm_digest RX10 4 (some .long) rm_Lm_digest) (ha0 : gk Tc nC a0 (0, 10))
    (h : Lm_digest_0 a0 I J N = some r) : G Tc X ad nC 0 0 I J N (gE X Tc ad nC (r.1, r.2.1, r.2.2.1, fun _ => some (.long r.2.2.2))) 0 4 [(0, .ref (ad a0))] [] := by
  refine g_ldc2 (pc := 0) C kc_Lm_265 d_Lm_digest_0 ?_
  refine g_lstore_n (pc := 3) (lv' := [(1, .long (17 : Int64)), (0, .ref (ad a0))]) C d_Lm_digest_3 rfl (by decide) rfl ?_
  refine g_iconst (pc := 4) C (0 : Int32) d_Lm_digest_4 (by decide) ?_
  refine g_istore_n (pc := 5) (lv' := [(3, .int (0 : Int32)), (1, .long (17 : Int64)), (0, .ref (ad a0))]) C d_Lm_digest_5 rfl (by decide) rfl ?_
  refine g_lv [2, 1, 0] rfl ?_
  exact w_Lm_digest_6 C ha0 _ _ _ _ _ _ h
set_option maxRecDepth 20000 in
theorem k_Lm_digest (l : Launch) {I : HI} {J : HJ} {N : HN} {a0 : Nat} {r : HI × HJ × HN × Int64} (ha0 : gk Tc nC a0 (0, 10)) (h : Lm_digest a0 I J N = some r) : gM l y_Lm_digest c_Lm_digest 4 (some .long) rm_Lm_digest Tc nC I J N (fun ad => [.ref (ad a0)]) (r.1, r.2.1, r.2.2.1, fun _ => some (.long r.2.2.2)) :=
  g_meth (lv := fun ad => [(0, .ref (ad a0))]) (by decide) (fun _ => Nat.le_of_ble_eq_true rfl) (fun _ => rfl) (fun X ad C => g_lv [0] rfl (w_Lm_digest_0 C ha0 h))
theorem d_Mo_in_0 : decode c_Mo_in 0 = .ok (.lload_n 0, 1) := by decide +kernel
theorem d_Mo_in_1 : decode c_Mo_in 1 = .ok (.lload_n 2, 1) := by decide +kernel
theorem d_Mo_in_2 : decode c_Mo_in 2 = .ok (.lcmp, 1) := by decide +kernel
theorem d_Mo_in_3 : decode c_Mo_in 3 = .ok (.ifCond .lt 14, 3) := by decide +kernel
theorem d_Mo_in_6 : decode c_Mo_in 6 = .ok (.lload_n 0, 1) := by decide +kernel
theorem d_Mo_in_7 : decode c_Mo_in 7 = .ok (.lload 4, 2) := by decide +kernel
theorem d_Mo_in_9 : decode c_Mo_in 9 = .ok (.lcmp, 1) := by decide +kernel
theorem d_Mo_in_10 : decode c_Mo_in 10 = .ok (.ifCond .gt 7, 3) := by decide +kernel
theorem d_Mo_in_13 : decode c_Mo_in 13 = .ok (.iconst 1, 1) := by decide +kernel
theorem d_Mo_in_14 : decode c_Mo_in 14 = .ok (.goto 4, 3) := by decide +kernel
theorem d_Mo_in_17 : decode c_Mo_in 17 = .ok (.iconst 0, 1) := by decide +kernel
theorem d_Mo_in_18 : decode c_Mo_in 18 = .ok (.ireturn, 1) := by decide +kernel
set_option maxRecDepth 20000 in
theorem w_Mo_in_0 {X : HX} {ad : Nat → Nat} {I : HI} {J : HJ} {N : HN} {r : Int32} {p0 : Int64} {p2 : Int64} {p4 : Int64} (C : Cx X c_Mo_in RX11 6 (some .boolean) rm_Mo_in)
    (h : Mo_in_0 p0 p2 p4 = some r) : G Tm X ad nM 0 0 I J N (gE X Tm ad nM (I, J, N, fun _ => some (.int r))) 0 6 [(0, .long p0), (2, .long p2), (4, .long p4)] [] := by
  refine g_lload_n (pc := 0) C d_Mo_in_0 rfl 0 rfl ?_
  refine g_lload_n (pc := 1) C d_Mo_in_1 rfl 1 rfl ?_
  refine g_lcmp_lt (pc := 2) C 17 d_Mo_in_2 d_Mo_in_3 rfl (fun e1 => ?_) (fun e1 => ?_)
  · have h := o_pos e1 h
    refine g_iconst (pc := 17) C (0 : Int32) d_Mo_in_17 (by decide) ?_
    obtain rfl := o_ret h
    exact g_zret (pc := 18) C zn_0 d_Mo_in_18
  · have h := o_neg e1 h
    refine g_lload_n (pc := 6) C d_Mo_in_6 rfl 0 rfl ?_
    refine g_lload (pc := 7) C d_Mo_in_7 2 rfl ?_
    refine g_lcmp_gt (pc := 9) C 17 d_Mo_in_9 d_Mo_in_10 rfl (fun e2 => ?_) (fun e2 => ?_)
    · have h := o_pos e2 h
      refine g_iconst (pc := 17) C (0 : Int32) d_Mo_in_17 (by decide) ?_
      obtain rfl := o_ret h
      exact g_zret (pc := 18) C zn_0 d_Mo_in_18
    · have h := o_neg e2 h
      refine g_iconst (pc := 13) C (1 : Int32) d_Mo_in_13 (by decide) ?_
      refine g_goto (pc := 14) C 18 d_Mo_in_14 rfl ?_
      obtain rfl := o_ret h
      exact g_zret (pc := 18) C zn_1 d_Mo_in_18
set_option maxRecDepth 20000 in
theorem k_Mo_in (l : Launch) {I : HI} {J : HJ} {N : HN} {p0 : Int64} {p2 : Int64} {p4 : Int64} {r : Int32} (h : Mo_in p0 p2 p4 = some r) : gM l y_Mo_in c_Mo_in 6 (some .boolean) rm_Mo_in Tm nM I J N (fun ad => [.long p0, .long p2, .long p4]) (I, J, N, fun _ => some (.int r)) :=
  g_meth (lv := fun ad => [(0, .long p0), (2, .long p2), (4, .long p4)]) (by decide) (fun _ => Nat.le_of_ble_eq_true rfl) (fun _ => rfl) (fun X ad C => g_lv [0, 1, 2] rfl (w_Mo_in_0 C  h))
theorem d_Mo_isTwo_0 : decode c_Mo_isTwo 0 = .ok (.iload_n 0, 1) := by decide +kernel
theorem d_Mo_isTwo_1 : decode c_Mo_isTwo 1 = .ok (.i2l, 1) := by decide +kernel
theorem d_Mo_isTwo_2 : decode c_Mo_isTwo 2 = .ok (.lconst 0, 1) := by decide +kernel
theorem d_Mo_isTwo_3 : decode c_Mo_isTwo 3 = .ok (.lconst 1, 1) := by decide +kernel
theorem d_Mo_isTwo_4 : decode c_Mo_isTwo 4 = .ok (.invokestatic 83, 3) := by decide +kernel
theorem d_Mo_isTwo_7 : decode c_Mo_isTwo 7 = .ok (.ireturn, 1) := by decide +kernel
set_option maxRecDepth 20000 in
theorem w_Mo_isTwo_0 {X : HX} {ad : Nat → Nat} {I : HI} {J : HJ} {N : HN} {r : Int32} {p0 : Int32} (C : Cx X c_Mo_isTwo RX11 1 (some .boolean) rm_Mo_isTwo)
    (h : Mo_isTwo_0 p0 = some r) : G Tm X ad nM 0 0 I J N (gE X Tm ad nM (I, J, N, fun _ => some (.int r))) 0 1 [(0, .int p0)] [] := by
  refine g_iload_n (pc := 0) C d_Mo_isTwo_0 rfl 0 rfl ?_
  refine g_i2l (pc := 1) C d_Mo_isTwo_1 ?_
  refine g_lconst (pc := 2) C (0 : Int64) d_Mo_isTwo_2 (by decide) ?_
  refine g_lconst (pc := 3) C (1 : Int64) d_Mo_isTwo_3 (by decide) ?_
  obtain ⟨r1, hc2, h⟩ := o_bn1 h
  refine g_S (pc := 4) (rest := []) C (k_Mo_in (xl X)  hc2) sm_Mo_in ml_Mo_83 st_Mo_in ⟨rfl, rfl, Nat.le_of_ble_eq_true rfl, Nat.le_of_ble_eq_true rfl⟩ ⟨Nat.zero_le _, Nat.zero_le _⟩ rfl rfl (Nat.le_of_ble_eq_true rfl) d_Mo_isTwo_4 [.int r1] rfl ?_
  obtain ⟨hz3, h⟩ := o_gd h
  obtain rfl := o_ret h
  exact g_zret (pc := 7) C (zn_B hz3) d_Mo_isTwo_7
set_option maxRecDepth 20000 in
theorem k_Mo_isTwo (l : Launch) {I : HI} {J : HJ} {N : HN} {p0 : Int32} {r : Int32} (h : Mo_isTwo p0 = some r) : gM l y_Mo_isTwo c_Mo_isTwo 1 (some .boolean) rm_Mo_isTwo Tm nM I J N (fun ad => [.int p0]) (I, J, N, fun _ => some (.int r)) :=
  g_meth (lv := fun ad => [(0, .int p0)]) (by decide) (fun _ => Nat.le_of_ble_eq_true rfl) (fun _ => rfl) (fun X ad C => g_lv [0] rfl (w_Mo_isTwo_0 C  h))
theorem d_Mo_no_0 : decode c_Mo_no 0 = .ok (.ldc2_w 87, 3) := by decide +kernel
theorem d_Mo_no_3 : decode c_Mo_no 3 = .ok (.iload_n 0, 1) := by decide +kernel
theorem d_Mo_no_4 : decode c_Mo_no 4 = .ok (.i2l, 1) := by decide +kernel
theorem d_Mo_no_5 : decode c_Mo_no 5 = .ok (.lsub, 1) := by decide +kernel
theorem d_Mo_no_6 : decode c_Mo_no 6 = .ok (.lreturn, 1) := by decide +kernel
set_option maxRecDepth 20000 in
theorem w_Mo_no_0 {X : HX} {ad : Nat → Nat} {I : HI} {J : HJ} {N : HN} {r : Int64} {p0 : Int32} (C : Cx X c_Mo_no RX11 1 (some .long) rm_Mo_no)
    (h : Mo_no_0 p0 = some r) : G Tm X ad nM 0 0 I J N (gE X Tm ad nM (I, J, N, fun _ => some (.long r))) 0 1 [(0, .int p0)] [] := by
  refine g_ldc2 (pc := 0) C kc_Mo_87 d_Mo_no_0 ?_
  refine g_iload_n (pc := 3) C d_Mo_no_3 rfl 0 rfl ?_
  refine g_i2l (pc := 4) C d_Mo_no_4 ?_
  refine g_lsub (pc := 5) C d_Mo_no_5 ?_
  obtain rfl := o_ret h
  exact g_lret (pc := 6) C d_Mo_no_6
set_option maxRecDepth 20000 in
theorem k_Mo_no (l : Launch) {I : HI} {J : HJ} {N : HN} {p0 : Int32} {r : Int64} (h : Mo_no p0 = some r) : gM l y_Mo_no c_Mo_no 1 (some .long) rm_Mo_no Tm nM I J N (fun ad => [.int p0]) (I, J, N, fun _ => some (.long r)) :=
  g_meth (lv := fun ad => [(0, .int p0)]) (by decide) (fun _ => Nat.le_of_ble_eq_true rfl) (fun _ => rfl) (fun X ad C => g_lv [0] rfl (w_Mo_no_0 C  h))
theorem d_Mo_greater_0 : decode c_Mo_greater 0 = .ok (.iload_n 0, 1) := by decide +kernel
theorem d_Mo_greater_1 : decode c_Mo_greater 1 = .ok (.iload_n 1, 1) := by decide +kernel
theorem d_Mo_greater_2 : decode c_Mo_greater 2 = .ok (.if_icmp .le 7, 3) := by decide +kernel
theorem d_Mo_greater_5 : decode c_Mo_greater 5 = .ok (.iload_n 0, 1) := by decide +kernel
theorem d_Mo_greater_6 : decode c_Mo_greater 6 = .ok (.goto 4, 3) := by decide +kernel
theorem d_Mo_greater_9 : decode c_Mo_greater 9 = .ok (.iload_n 1, 1) := by decide +kernel
theorem d_Mo_greater_10 : decode c_Mo_greater 10 = .ok (.ireturn, 1) := by decide +kernel
set_option maxRecDepth 20000 in
theorem w_Mo_greater_0 {X : HX} {ad : Nat → Nat} {I : HI} {J : HJ} {N : HN} {r : Int32} {p0 : Int32} {p1 : Int32} (C : Cx X c_Mo_greater RX11 2 (some .int) rm_Mo_greater)
    (h : Mo_greater_0 p0 p1 = some r) : G Tm X ad nM 0 0 I J N (gE X Tm ad nM (I, J, N, fun _ => some (.int r))) 0 2 [(0, .int p0), (1, .int p1)] [] := by
  refine g_iload_n (pc := 0) C d_Mo_greater_0 rfl 0 rfl ?_
  refine g_iload_n (pc := 1) C d_Mo_greater_1 rfl 1 rfl ?_
  refine g_icmp_le (pc := 2) C 9 d_Mo_greater_2 rfl (fun e1 => ?_) (fun e1 => ?_)
  · have h := o_pos e1 h
    refine g_iload_n (pc := 9) C d_Mo_greater_9 rfl 1 rfl ?_
    obtain rfl := o_ret h
    exact g_iret (pc := 10) C d_Mo_greater_10
  · have h := o_neg e1 h
    refine g_iload_n (pc := 5) C d_Mo_greater_5 rfl 0 rfl ?_
    refine g_goto (pc := 6) C 10 d_Mo_greater_6 rfl ?_
    obtain rfl := o_ret h
    exact g_iret (pc := 10) C d_Mo_greater_10
set_option maxRecDepth 20000 in
theorem k_Mo_greater (l : Launch) {I : HI} {J : HJ} {N : HN} {p0 : Int32} {p1 : Int32} {r : Int32} (h : Mo_greater p0 p1 = some r) : gM l y_Mo_greater c_Mo_greater 2 (some .int) rm_Mo_greater Tm nM I J N (fun ad => [.int p0, .int p1]) (I, J, N, fun _ => some (.int r)) :=
  g_meth (lv := fun ad => [(0, .int p0), (1, .int p1)]) (by decide) (fun _ => Nat.le_of_ble_eq_true rfl) (fun _ => rfl) (fun X ad C => g_lv [0, 1] rfl (w_Mo_greater_0 C  h))
theorem d_Mo_lesser_0 : decode c_Mo_lesser 0 = .ok (.iload_n 0, 1) := by decide +kernel
theorem d_Mo_lesser_1 : decode c_Mo_lesser 1 = .ok (.iload_n 1, 1) := by decide +kernel
theorem d_Mo_lesser_2 : decode c_Mo_lesser 2 = .ok (.if_icmp .ge 7, 3) := by decide +kernel
theorem d_Mo_lesser_5 : decode c_Mo_lesser 5 = .ok (.iload_n 0, 1) := by decide +kernel
theorem d_Mo_lesser_6 : decode c_Mo_lesser 6 = .ok (.goto 4, 3) := by decide +kernel
theorem d_Mo_lesser_9 : decode c_Mo_lesser 9 = .ok (.iload_n 1, 1) := by decide +kernel
theorem d_Mo_lesser_10 : decode c_Mo_lesser 10 = .ok (.ireturn, 1) := by decide +kernel
set_option maxRecDepth 20000 in
theorem w_Mo_lesser_0 {X : HX} {ad : Nat → Nat} {I : HI} {J : HJ} {N : HN} {r : Int32} {p0 : Int32} {p1 : Int32} (C : Cx X c_Mo_lesser RX11 2 (some .int) rm_Mo_lesser)
    (h : Mo_lesser_0 p0 p1 = some r) : G Tm X ad nM 0 0 I J N (gE X Tm ad nM (I, J, N, fun _ => some (.int r))) 0 2 [(0, .int p0), (1, .int p1)] [] := by
  refine g_iload_n (pc := 0) C d_Mo_lesser_0 rfl 0 rfl ?_
  refine g_iload_n (pc := 1) C d_Mo_lesser_1 rfl 1 rfl ?_
  refine g_icmp_ge (pc := 2) C 9 d_Mo_lesser_2 rfl (fun e1 => ?_) (fun e1 => ?_)
  · have h := o_pos e1 h
    refine g_iload_n (pc := 9) C d_Mo_lesser_9 rfl 1 rfl ?_
    obtain rfl := o_ret h
    exact g_iret (pc := 10) C d_Mo_lesser_10
  · have h := o_neg e1 h
    refine g_iload_n (pc := 5) C d_Mo_lesser_5 rfl 0 rfl ?_
    refine g_goto (pc := 6) C 10 d_Mo_lesser_6 rfl ?_
    obtain rfl := o_ret h
    exact g_iret (pc := 10) C d_Mo_lesser_10
set_option maxRecDepth 20000 in
theorem k_Mo_lesser (l : Launch) {I : HI} {J : HJ} {N : HN} {p0 : Int32} {p1 : Int32} {r : Int32} (h : Mo_lesser p0 p1 = some r) : gM l y_Mo_lesser c_Mo_lesser 2 (some .int) rm_Mo_lesser Tm nM I J N (fun ad => [.int p0, .int p1]) (I, J, N, fun _ => some (.int r)) :=
  g_meth (lv := fun ad => [(0, .int p0), (1, .int p1)]) (by decide) (fun _ => Nat.le_of_ble_eq_true rfl) (fun _ => rfl) (fun X ad C => g_lv [0, 1] rfl (w_Mo_lesser_0 C  h))
theorem d_Mo_divisor_0 : decode c_Mo_divisor 0 = .ok (.lload_n 0, 1) := by decide +kernel
theorem d_Mo_divisor_1 : decode c_Mo_divisor 1 = .ok (.lconst 0, 1) := by decide +kernel
theorem d_Mo_divisor_2 : decode c_Mo_divisor 2 = .ok (.lcmp, 1) := by decide +kernel
theorem d_Mo_divisor_3 : decode c_Mo_divisor 3 = .ok (.ifCond .ge 9, 3) := by decide +kernel
theorem d_Mo_divisor_6 : decode c_Mo_divisor 6 = .ok (.lconst 0, 1) := by decide +kernel
theorem d_Mo_divisor_7 : decode c_Mo_divisor 7 = .ok (.lload_n 0, 1) := by decide +kernel
theorem d_Mo_divisor_8 : decode c_Mo_divisor 8 = .ok (.lsub, 1) := by decide +kernel
theorem d_Mo_divisor_9 : decode c_Mo_divisor 9 = .ok (.goto 4, 3) := by decide +kernel
theorem d_Mo_divisor_12 : decode c_Mo_divisor 12 = .ok (.lload_n 0, 1) := by decide +kernel
theorem d_Mo_divisor_13 : decode c_Mo_divisor 13 = .ok (.lstore 4, 2) := by decide +kernel
theorem d_Mo_divisor_15 : decode c_Mo_divisor 15 = .ok (.lload_n 2, 1) := by decide +kernel
theorem d_Mo_divisor_16 : decode c_Mo_divisor 16 = .ok (.lconst 0, 1) := by decide +kernel
theorem d_Mo_divisor_17 : decode c_Mo_divisor 17 = .ok (.lcmp, 1) := by decide +kernel
theorem d_Mo_divisor_18 : decode c_Mo_divisor 18 = .ok (.ifCond .ge 9, 3) := by decide +kernel
theorem d_Mo_divisor_21 : decode c_Mo_divisor 21 = .ok (.lconst 0, 1) := by decide +kernel
theorem d_Mo_divisor_22 : decode c_Mo_divisor 22 = .ok (.lload_n 2, 1) := by decide +kernel
theorem d_Mo_divisor_23 : decode c_Mo_divisor 23 = .ok (.lsub, 1) := by decide +kernel
theorem d_Mo_divisor_24 : decode c_Mo_divisor 24 = .ok (.goto 4, 3) := by decide +kernel
theorem d_Mo_divisor_27 : decode c_Mo_divisor 27 = .ok (.lload_n 2, 1) := by decide +kernel
theorem d_Mo_divisor_28 : decode c_Mo_divisor 28 = .ok (.lstore 6, 2) := by decide +kernel
theorem d_Mo_divisor_30 : decode c_Mo_divisor 30 = .ok (.iconst 0, 1) := by decide +kernel
theorem d_Mo_divisor_31 : decode c_Mo_divisor 31 = .ok (.istore 8, 2) := by decide +kernel
theorem d_Mo_divisor_33 : decode c_Mo_divisor 33 = .ok (.iload 8, 2) := by decide +kernel
theorem d_Mo_divisor_35 : decode c_Mo_divisor 35 = .ok (.sipush 200, 3) := by decide +kernel
theorem d_Mo_divisor_38 : decode c_Mo_divisor 38 = .ok (.if_icmp .ge 31, 3) := by decide +kernel
theorem d_Mo_divisor_41 : decode c_Mo_divisor 41 = .ok (.lload 6, 2) := by decide +kernel
theorem d_Mo_divisor_43 : decode c_Mo_divisor 43 = .ok (.lconst 0, 1) := by decide +kernel
theorem d_Mo_divisor_44 : decode c_Mo_divisor 44 = .ok (.lcmp, 1) := by decide +kernel
theorem d_Mo_divisor_45 : decode c_Mo_divisor 45 = .ok (.ifCond .eq 24, 3) := by decide +kernel
theorem d_Mo_divisor_48 : decode c_Mo_divisor 48 = .ok (.lload 4, 2) := by decide +kernel
theorem d_Mo_divisor_50 : decode c_Mo_divisor 50 = .ok (.lload 6, 2) := by decide +kernel
theorem d_Mo_divisor_52 : decode c_Mo_divisor 52 = .ok (.lrem, 1) := by decide +kernel
theorem d_Mo_divisor_53 : decode c_Mo_divisor 53 = .ok (.lstore 9, 2) := by decide +kernel
theorem d_Mo_divisor_55 : decode c_Mo_divisor 55 = .ok (.lload 6, 2) := by decide +kernel
theorem d_Mo_divisor_57 : decode c_Mo_divisor 57 = .ok (.lstore 4, 2) := by decide +kernel
theorem d_Mo_divisor_59 : decode c_Mo_divisor 59 = .ok (.lload 9, 2) := by decide +kernel
theorem d_Mo_divisor_61 : decode c_Mo_divisor 61 = .ok (.lstore 6, 2) := by decide +kernel
theorem d_Mo_divisor_63 : decode c_Mo_divisor 63 = .ok (.iinc 8 1, 3) := by decide +kernel
theorem d_Mo_divisor_66 : decode c_Mo_divisor 66 = .ok (.goto (-33), 3) := by decide +kernel
theorem d_Mo_divisor_69 : decode c_Mo_divisor 69 = .ok (.lload 4, 2) := by decide +kernel
theorem d_Mo_divisor_71 : decode c_Mo_divisor 71 = .ok (.lreturn, 1) := by decide +kernel
set_option maxRecDepth 20000 in
theorem w_Mo_divisor_33b {X : HX} {ad : Nat → Nat} {I : HI} {J : HJ} {N : HN} {r : Int64} {k33 : Int64 → Int64 → Int32 → Option (Int64)} {p0 : Int64} {p2 : Int64} {x4 : Int64} {x6 : Int64} {x8 : Int32} (C : Cx X c_Mo_divisor RX11 11 (some .long) rm_Mo_divisor)
    (hk33 : ∀ (x4 : Int64) (x6 : Int64) (x8 : Int32), k33 x4 x6 x8 = some r → G Tm X ad nM 0 0 I J N (gE X Tm ad nM (I, J, N, fun _ => some (.long r))) 33 11 [(4, .long x4), (6, .long x6), (8, .int x8)] [])
    (h : Mo_divisor_33b p0 p2 k33 x4 x6 x8 = some r) : G Tm X ad nM 0 0 I J N (gE X Tm ad nM (I, J, N, fun _ => some (.long r))) 33 11 [(4, .long x4), (6, .long x6), (8, .int x8)] [] := by
  refine g_iload (pc := 33) C d_Mo_divisor_33 2 rfl ?_
  refine g_sipush (pc := 35) C (200 : Int32) d_Mo_divisor_35 (by decide) ?_
  refine g_icmp_ge (pc := 38) C 69 d_Mo_divisor_38 rfl (fun e1 => ?_) (fun e1 => ?_)
  · have h := o_pos e1 h
    refine g_lload (pc := 69) C d_Mo_divisor_69 0 rfl ?_
    obtain rfl := o_ret h
    exact g_lret (pc := 71) C d_Mo_divisor_71
  · have h := o_neg e1 h
    refine g_lload (pc := 41) C d_Mo_divisor_41 1 rfl ?_
    refine g_lconst (pc := 43) C (0 : Int64) d_Mo_divisor_43 (by decide) ?_
    refine g_lcmp_eq (pc := 44) C 69 d_Mo_divisor_44 d_Mo_divisor_45 rfl (fun e2 => ?_) (fun e2 => ?_)
    · have h := o_pos e2 h
      refine g_lload (pc := 69) C d_Mo_divisor_69 0 rfl ?_
      obtain rfl := o_ret h
      exact g_lret (pc := 71) C d_Mo_divisor_71
    · have h := o_neg e2 h
      refine g_lload (pc := 48) C d_Mo_divisor_48 0 rfl ?_
      refine g_lload (pc := 50) C d_Mo_divisor_50 1 rfl ?_
      obtain ⟨hz3, h⟩ := o_gd h
      refine g_lrem (pc := 52) C d_Mo_divisor_52 (of_decide_eq_true hz3) ?_
      obtain ⟨v4, ev4, h⟩ := o_bd h
      refine g_topl ev4 ?_
      refine g_lstore (pc := 53) (lv' := [(9, .long v4), (4, .long x4), (6, .long x6), (8, .int x8)]) C d_Mo_divisor_53 (by decide) rfl ?_
      refine g_lload (pc := 55) C d_Mo_divisor_55 2 rfl ?_
      refine g_lstore (pc := 57) (lv' := [(4, .long x6), (9, .long v4), (6, .long x6), (8, .int x8)]) C d_Mo_divisor_57 (by decide) rfl ?_
      refine g_lload (pc := 59) C d_Mo_divisor_59 1 rfl ?_
      refine g_lstore (pc := 61) (lv' := [(6, .long v4), (4, .long x6), (9, .long v4), (8, .int x8)]) C d_Mo_divisor_61 (by decide) rfl ?_
      refine g_iinc (pc := 63) (q := 3) (lv' := [(8, .int (x8 + 1)), (6, .long v4), (4, .long x6), (9, .long v4)]) C d_Mo_divisor_63 rfl rfl (by decide) rfl ?_
      refine g_goto (pc := 66) C 33 d_Mo_divisor_66 rfl ?_
      refine g_lv [2, 1, 0] rfl ?_
      exact hk33 _ _ _ h
set_option maxRecDepth 20000 in
theorem w_Mo_divisor_33 {X : HX} {ad : Nat → Nat} {I : HI} {J : HJ} {N : HN} {r : Int64} {p0 : Int64} {p2 : Int64} (C : Cx X c_Mo_divisor RX11 11 (some .long) rm_Mo_divisor) : ∀ (n : Nat) (x4 : Int64) (x6 : Int64) (x8 : Int32), Mo_divisor_33 p0 p2 n x4 x6 x8 = some r → G Tm X ad nM 0 0 I J N (gE X Tm ad nM (I, J, N, fun _ => some (.long r))) 33 11 [(4, .long x4), (6, .long x6), (8, .int x8)] [] := by
  intro n
  induction n with
  | zero => intro x4 x6 x8 h; cases h
  | succ n ih => intro x4 x6 x8 h; exact w_Mo_divisor_33b C ih h
set_option maxRecDepth 20000 in
theorem w_Mo_divisor_28 {X : HX} {ad : Nat → Nat} {I : HI} {J : HJ} {N : HN} {r : Int64} {p0 : Int64} {p2 : Int64} {x4 : Int64} {s0 : Int64} (C : Cx X c_Mo_divisor RX11 11 (some .long) rm_Mo_divisor)
    (h : Mo_divisor_28 p0 p2 x4 s0 = some r) : G Tm X ad nM 0 0 I J N (gE X Tm ad nM (I, J, N, fun _ => some (.long r))) 28 11 [(4, .long x4)] [.long s0] := by
  refine g_lstore (pc := 28) (lv' := [(6, .long s0), (4, .long x4)]) C d_Mo_divisor_28 (by decide) rfl ?_
  refine g_iconst (pc := 30) C (0 : Int32) d_Mo_divisor_30 (by decide) ?_
  refine g_istore (pc := 31) (lv' := [(8, .int (0 : Int32)), (6, .long s0), (4, .long x4)]) C d_Mo_divisor_31 (by decide) rfl ?_
  refine g_lv [2, 1, 0] rfl ?_
  exact w_Mo_divisor_33 C _ _ _ _ h
set_option maxRecDepth 20000 in
theorem w_Mo_divisor_13 {X : HX} {ad : Nat → Nat} {I : HI} {J : HJ} {N : HN} {r : Int64} {p0 : Int64} {p2 : Int64} {s0 : Int64} (C : Cx X c_Mo_divisor RX11 11 (some .long) rm_Mo_divisor)
    (h : Mo_divisor_13 p0 p2 s0 = some r) : G Tm X ad nM 0 0 I J N (gE X Tm ad nM (I, J, N, fun _ => some (.long r))) 13 11 [(2, .long p2)] [.long s0] := by
  refine g_lstore (pc := 13) (lv' := [(4, .long s0), (2, .long p2)]) C d_Mo_divisor_13 (by decide) rfl ?_
  refine g_lload_n (pc := 15) C d_Mo_divisor_15 rfl 1 rfl ?_
  refine g_lconst (pc := 16) C (0 : Int64) d_Mo_divisor_16 (by decide) ?_
  refine g_lcmp_ge (pc := 17) C 27 d_Mo_divisor_17 d_Mo_divisor_18 rfl (fun e1 => ?_) (fun e1 => ?_)
  · have h := o_pos e1 h
    refine g_lload_n (pc := 27) C d_Mo_divisor_27 rfl 1 rfl ?_
    refine g_lv [0] rfl ?_
    exact w_Mo_divisor_28 C  h
  · have h := o_neg e1 h
    refine g_lconst (pc := 21) C (0 : Int64) d_Mo_divisor_21 (by decide) ?_
    refine g_lload_n (pc := 22) C d_Mo_divisor_22 rfl 1 rfl ?_
    refine g_lsub (pc := 23) C d_Mo_divisor_23 ?_
    refine g_goto (pc := 24) C 28 d_Mo_divisor_24 rfl ?_
    refine g_lv [0] rfl ?_
    exact w_Mo_divisor_28 C  h
set_option maxRecDepth 20000 in
theorem w_Mo_divisor_0 {X : HX} {ad : Nat → Nat} {I : HI} {J : HJ} {N : HN} {r : Int64} {p0 : Int64} {p2 : Int64} (C : Cx X c_Mo_divisor RX11 11 (some .long) rm_Mo_divisor)
    (h : Mo_divisor_0 p0 p2 = some r) : G Tm X ad nM 0 0 I J N (gE X Tm ad nM (I, J, N, fun _ => some (.long r))) 0 11 [(0, .long p0), (2, .long p2)] [] := by
  refine g_lload_n (pc := 0) C d_Mo_divisor_0 rfl 0 rfl ?_
  refine g_lconst (pc := 1) C (0 : Int64) d_Mo_divisor_1 (by decide) ?_
  refine g_lcmp_ge (pc := 2) C 12 d_Mo_divisor_2 d_Mo_divisor_3 rfl (fun e1 => ?_) (fun e1 => ?_)
  · have h := o_pos e1 h
    refine g_lload_n (pc := 12) C d_Mo_divisor_12 rfl 0 rfl ?_
    refine g_lv [1] rfl ?_
    exact w_Mo_divisor_13 C  h
  · have h := o_neg e1 h
    refine g_lconst (pc := 6) C (0 : Int64) d_Mo_divisor_6 (by decide) ?_
    refine g_lload_n (pc := 7) C d_Mo_divisor_7 rfl 0 rfl ?_
    refine g_lsub (pc := 8) C d_Mo_divisor_8 ?_
    refine g_goto (pc := 9) C 13 d_Mo_divisor_9 rfl ?_
    refine g_lv [1] rfl ?_
    exact w_Mo_divisor_13 C  h
set_option maxRecDepth 20000 in
theorem k_Mo_divisor (l : Launch) {I : HI} {J : HJ} {N : HN} {p0 : Int64} {p2 : Int64} {r : Int64} (h : Mo_divisor p0 p2 = some r) : gM l y_Mo_divisor c_Mo_divisor 11 (some .long) rm_Mo_divisor Tm nM I J N (fun ad => [.long p0, .long p2]) (I, J, N, fun _ => some (.long r)) :=
  g_meth (lv := fun ad => [(0, .long p0), (2, .long p2)]) (by decide) (fun _ => Nat.le_of_ble_eq_true rfl) (fun _ => rfl) (fun X ad C => g_lv [0, 1] rfl (w_Mo_divisor_0 C  h))
theorem d_Mo_finds_0 : decode c_Mo_finds 0 = .ok (.aload_n 0, 1) := by decide +kernel
theorem d_Mo_finds_1 : decode c_Mo_finds 1 = .ok (.iload_n 1, 1) := by decide +kernel
theorem d_Mo_finds_2 : decode c_Mo_finds 2 = .ok (.putfield 89, 3) := by decide +kernel
theorem d_Mo_finds_5 : decode c_Mo_finds 5 = .ok (.bipush (-10), 2) := by decide +kernel
theorem d_Mo_finds_7 : decode c_Mo_finds 7 = .ok (.iload_n 1, 1) := by decide +kernel
theorem d_Mo_finds_8 : decode c_Mo_finds 8 = .ok (.isub, 1) := by decide +kernel
theorem d_Mo_finds_9 : decode c_Mo_finds 9 = .ok (.ireturn, 1) := by decide +kernel
set_option maxRecDepth 20000 in
theorem w_Mo_finds_0 {X : HX} {ad : Nat → Nat} {I : HI} {J : HJ} {N : HN} {r : HI × Int32} {a0 : Nat} {p1 : Int32} (C : Cx X c_Mo_finds RX11 2 (some .int) rm_Mo_finds) (ha0 : gk Tm nM a0 (0, 11))
    (h : Mo_finds_0 a0 p1 I = some r) : G Tm X ad nM 0 0 I J N (gE X Tm ad nM (r.1, J, N, fun _ => some (.int r.2))) 0 2 [(0, .ref (ad a0)), (1, .int p1)] [] := by
  refine g_aload_n (pc := 0) C d_Mo_finds_0 rfl 0 rfl ?_
  refine g_iload_n (pc := 1) C d_Mo_finds_1 rfl 1 rfl ?_
  refine g_put (pc := 2) (I' := up2 I a0 0 p1) (J' := J) (N' := N) (k := 0) C gcX11 inX11 tyX11_ok nmX11 (by decide) fl_Mo_89 rfl ha0 (tyX11_ok 0 (by decide)) rfl rfl (Nat.le_of_ble_eq_true rfl) gs_11_0 (fun b hb => up2_of hb) (fun _ _ => rfl) (fun _ _ => rfl) d_Mo_finds_2 ?_
  obtain ⟨I1, eI1, h⟩ := o_bd h
  rw [← eI1]
  refine g_bipush (pc := 5) C (-10 : Int32) d_Mo_finds_5 (by decide) ?_
  refine g_iload_n (pc := 7) C d_Mo_finds_7 rfl 1 rfl ?_
  refine g_isub (pc := 8) C d_Mo_finds_8 ?_
  obtain rfl := o_ret h
  exact g_iret (pc := 9) C d_Mo_finds_9
set_option maxRecDepth 20000 in
theorem k_Mo_finds (l : Launch) {I : HI} {J : HJ} {N : HN} {a0 : Nat} {p1 : Int32} {r : HI × Int32} (ha0 : gk Tm nM a0 (0, 11)) (h : Mo_finds a0 p1 I = some r) : gM l y_Mo_finds c_Mo_finds 2 (some .int) rm_Mo_finds Tm nM I J N (fun ad => [.ref (ad a0), .int p1]) (r.1, J, N, fun _ => some (.int r.2)) :=
  g_meth (lv := fun ad => [(0, .ref (ad a0)), (1, .int p1)]) (by decide) (fun _ => Nat.le_of_ble_eq_true rfl) (fun _ => rfl) (fun X ad C => g_lv [0, 1] rfl (w_Mo_finds_0 C ha0 h))
theorem d_Mo_isSheet_0 : decode c_Mo_isSheet 0 = .ok (.iload_n 0, 1) := by decide +kernel
theorem d_Mo_isSheet_1 : decode c_Mo_isSheet 1 = .ok (.i2l, 1) := by decide +kernel
theorem d_Mo_isSheet_2 : decode c_Mo_isSheet 2 = .ok (.lconst 0, 1) := by decide +kernel
theorem d_Mo_isSheet_3 : decode c_Mo_isSheet 3 = .ok (.ldc2_w 93, 3) := by decide +kernel
theorem d_Mo_isSheet_6 : decode c_Mo_isSheet 6 = .ok (.invokestatic 83, 3) := by decide +kernel
theorem d_Mo_isSheet_9 : decode c_Mo_isSheet 9 = .ok (.ireturn, 1) := by decide +kernel
set_option maxRecDepth 20000 in
theorem w_Mo_isSheet_0 {X : HX} {ad : Nat → Nat} {I : HI} {J : HJ} {N : HN} {r : Int32} {p0 : Int32} (C : Cx X c_Mo_isSheet RX11 1 (some .boolean) rm_Mo_isSheet)
    (h : Mo_isSheet_0 p0 = some r) : G Tm X ad nM 0 0 I J N (gE X Tm ad nM (I, J, N, fun _ => some (.int r))) 0 1 [(0, .int p0)] [] := by
  refine g_iload_n (pc := 0) C d_Mo_isSheet_0 rfl 0 rfl ?_
  refine g_i2l (pc := 1) C d_Mo_isSheet_1 ?_
  refine g_lconst (pc := 2) C (0 : Int64) d_Mo_isSheet_2 (by decide) ?_
  refine g_ldc2 (pc := 3) C kc_Mo_93 d_Mo_isSheet_3 ?_
  obtain ⟨r1, hc2, h⟩ := o_bn1 h
  refine g_S (pc := 6) (rest := []) C (k_Mo_in (xl X)  hc2) sm_Mo_in ml_Mo_83 st_Mo_in ⟨rfl, rfl, Nat.le_of_ble_eq_true rfl, Nat.le_of_ble_eq_true rfl⟩ ⟨Nat.zero_le _, Nat.zero_le _⟩ rfl rfl (Nat.le_of_ble_eq_true rfl) d_Mo_isSheet_6 [.int r1] rfl ?_
  obtain ⟨hz3, h⟩ := o_gd h
  obtain rfl := o_ret h
  exact g_zret (pc := 9) C (zn_B hz3) d_Mo_isSheet_9
set_option maxRecDepth 20000 in
theorem k_Mo_isSheet (l : Launch) {I : HI} {J : HJ} {N : HN} {p0 : Int32} {r : Int32} (h : Mo_isSheet p0 = some r) : gM l y_Mo_isSheet c_Mo_isSheet 1 (some .boolean) rm_Mo_isSheet Tm nM I J N (fun ad => [.int p0]) (I, J, N, fun _ => some (.int r)) :=
  g_meth (lv := fun ad => [(0, .int p0)]) (by decide) (fun _ => Nat.le_of_ble_eq_true rfl) (fun _ => rfl) (fun X ad C => g_lv [0] rfl (w_Mo_isSheet_0 C  h))
theorem d_Mo_sheet_0 : decode c_Mo_sheet 0 = .ok (.iload_n 1, 1) := by decide +kernel
theorem d_Mo_sheet_1 : decode c_Mo_sheet 1 = .ok (.invokestatic 95, 3) := by decide +kernel
theorem d_Mo_sheet_4 : decode c_Mo_sheet 4 = .ok (.ifCond .eq 9, 3) := by decide +kernel
theorem d_Mo_sheet_7 : decode c_Mo_sheet 7 = .ok (.iload_n 2, 1) := by decide +kernel
theorem d_Mo_sheet_8 : decode c_Mo_sheet 8 = .ok (.bipush 40, 2) := by decide +kernel
theorem d_Mo_sheet_10 : decode c_Mo_sheet 10 = .ok (.if_icmp .le 6, 3) := by decide +kernel
theorem d_Mo_sheet_13 : decode c_Mo_sheet 13 = .ok (.bipush (-2), 2) := by decide +kernel
theorem d_Mo_sheet_15 : decode c_Mo_sheet 15 = .ok (.ireturn, 1) := by decide +kernel
theorem d_Mo_sheet_16 : decode c_Mo_sheet 16 = .ok (.iload_n 2, 1) := by decide +kernel
theorem d_Mo_sheet_17 : decode c_Mo_sheet 17 = .ok (.ifCond .ge 9, 3) := by decide +kernel
theorem d_Mo_sheet_20 : decode c_Mo_sheet 20 = .ok (.aload_n 0, 1) := by decide +kernel
theorem d_Mo_sheet_21 : decode c_Mo_sheet 21 = .ok (.iconst 3, 1) := by decide +kernel
theorem d_Mo_sheet_22 : decode c_Mo_sheet 22 = .ok (.invokevirtual 99, 3) := by decide +kernel
theorem d_Mo_sheet_25 : decode c_Mo_sheet 25 = .ok (.ireturn, 1) := by decide +kernel
theorem d_Mo_sheet_26 : decode c_Mo_sheet 26 = .ok (.aload_n 0, 1) := by decide +kernel
theorem d_Mo_sheet_27 : decode c_Mo_sheet 27 = .ok (.getfield 7, 3) := by decide +kernel
theorem d_Mo_sheet_30 : decode c_Mo_sheet 30 = .ok (.iload_n 1, 1) := by decide +kernel
theorem d_Mo_sheet_31 : decode c_Mo_sheet 31 = .ok (.iload_n 2, 1) := by decide +kernel
theorem d_Mo_sheet_32 : decode c_Mo_sheet 32 = .ok (.iastore, 1) := by decide +kernel
theorem d_Mo_sheet_33 : decode c_Mo_sheet 33 = .ok (.iconst 0, 1) := by decide +kernel
theorem d_Mo_sheet_34 : decode c_Mo_sheet 34 = .ok (.istore_n 3, 1) := by decide +kernel
theorem d_Mo_sheet_35 : decode c_Mo_sheet 35 = .ok (.iload_n 3, 1) := by decide +kernel
theorem d_Mo_sheet_36 : decode c_Mo_sheet 36 = .ok (.iload_n 2, 1) := by decide +kernel
theorem d_Mo_sheet_37 : decode c_Mo_sheet 37 = .ok (.if_icmp .ge 21, 3) := by decide +kernel
theorem d_Mo_sheet_40 : decode c_Mo_sheet 40 = .ok (.aload_n 0, 1) := by decide +kernel
theorem d_Mo_sheet_41 : decode c_Mo_sheet 41 = .ok (.getfield 13, 3) := by decide +kernel
theorem d_Mo_sheet_44 : decode c_Mo_sheet 44 = .ok (.bipush 40, 2) := by decide +kernel
theorem d_Mo_sheet_46 : decode c_Mo_sheet 46 = .ok (.iload_n 1, 1) := by decide +kernel
theorem d_Mo_sheet_47 : decode c_Mo_sheet 47 = .ok (.imul, 1) := by decide +kernel
theorem d_Mo_sheet_48 : decode c_Mo_sheet 48 = .ok (.iload_n 3, 1) := by decide +kernel
theorem d_Mo_sheet_49 : decode c_Mo_sheet 49 = .ok (.iadd, 1) := by decide +kernel
theorem d_Mo_sheet_50 : decode c_Mo_sheet 50 = .ok (.lconst 0, 1) := by decide +kernel
theorem d_Mo_sheet_51 : decode c_Mo_sheet 51 = .ok (.lastore, 1) := by decide +kernel
theorem d_Mo_sheet_52 : decode c_Mo_sheet 52 = .ok (.iinc 3 1, 3) := by decide +kernel
theorem d_Mo_sheet_55 : decode c_Mo_sheet 55 = .ok (.goto (-20), 3) := by decide +kernel
theorem d_Mo_sheet_58 : decode c_Mo_sheet 58 = .ok (.iload_n 2, 1) := by decide +kernel
theorem d_Mo_sheet_59 : decode c_Mo_sheet 59 = .ok (.ireturn, 1) := by decide +kernel
set_option maxRecDepth 20000 in
theorem w_Mo_sheet_35b {X : HX} {ad : Nat → Nat} {I : HI} {J : HJ} {N : HN} {r : HI × HJ × Int32} {k35 : HI → HJ → Int32 → Option (HI × HJ × Int32)} {a0 : Nat} {p1 : Int32} {p2 : Int32} {x3 : Int32} (C : Cx X c_Mo_sheet RX11 4 (some .int) rm_Mo_sheet) (ha0 : gk Tm nM a0 (0, 11))
    (hk35 : ∀ (I : HI) (J : HJ) (x3 : Int32), k35 I J x3 = some r → G Tm X ad nM 0 0 I J N (gE X Tm ad nM (r.1, r.2.1, N, fun _ => some (.int r.2.2))) 35 4 [(0, .ref (ad a0)), (1, .int p1), (2, .int p2), (3, .int x3)] [])
    (h : Mo_sheet_35b N a0 p1 p2 k35 I J x3 = some r) : G Tm X ad nM 0 0 I J N (gE X Tm ad nM (r.1, r.2.1, N, fun _ => some (.int r.2.2))) 35 4 [(0, .ref (ad a0)), (1, .int p1), (2, .int p2), (3, .int x3)] [] := by
  refine g_iload_n (pc := 35) C d_Mo_sheet_35 rfl 3 rfl ?_
  refine g_iload_n (pc := 36) C d_Mo_sheet_36 rfl 2 rfl ?_
  refine g_icmp_ge (pc := 37) C 58 d_Mo_sheet_37 rfl (fun e1 => ?_) (fun e1 => ?_)
  · have h := o_pos e1 h
    refine g_iload_n (pc := 58) C d_Mo_sheet_58 rfl 2 rfl ?_
    obtain rfl := o_ret h
    exact g_iret (pc := 59) C d_Mo_sheet_59
  · have h := o_neg e1 h
    refine g_aload_n (pc := 40) C d_Mo_sheet_40 rfl 0 rfl ?_
    obtain ⟨b2, hnb2, hb2, h⟩ := o_ra h
    refine g_get (pc := 41) (k := 2) (v := va_rf ((N a0 2).map ad)) C gcX11 inX11 (by decide) fl_Mo_13 ha0 rfl d_Mo_sheet_41 ?_
    refine g_top (g_rf hnb2) ?_
    refine g_bipush (pc := 44) C (40 : Int32) d_Mo_sheet_44 (by decide) ?_
    refine g_iload_n (pc := 46) C d_Mo_sheet_46 rfl 1 rfl ?_
    refine g_imul (pc := 47) C d_Mo_sheet_47 ?_
    refine g_iload_n (pc := 48) C d_Mo_sheet_48 rfl 3 rfl ?_
    refine g_iadd (pc := 49) C d_Mo_sheet_49 ?_
    refine g_lconst (pc := 50) C (0 : Int64) d_Mo_sheet_50 (by decide) ?_
    obtain ⟨hi3, h⟩ := o_gd h
    refine g_last (pc := 51) C hb2 hi3 d_Mo_sheet_51 ?_
    obtain ⟨J4, eJ4, h⟩ := o_bd h
    rw [← eJ4]
    refine g_iinc (pc := 52) (q := 3) (lv' := [(3, .int (x3 + 1)), (0, .ref (ad a0)), (1, .int p1), (2, .int p2)]) C d_Mo_sheet_52 rfl rfl (by decide) rfl ?_
    refine g_goto (pc := 55) C 35 d_Mo_sheet_55 rfl ?_
    refine g_lv [1, 2, 3, 0] rfl ?_
    exact hk35 _ _ _ h
set_option maxRecDepth 20000 in
theorem w_Mo_sheet_35 {X : HX} {ad : Nat → Nat} {N : HN} {r : HI × HJ × Int32} {a0 : Nat} {p1 : Int32} {p2 : Int32} (C : Cx X c_Mo_sheet RX11 4 (some .int) rm_Mo_sheet) (ha0 : gk Tm nM a0 (0, 11)) : ∀ (n : Nat) (I : HI) (J : HJ) (x3 : Int32), Mo_sheet_35 N a0 p1 p2 n I J x3 = some r → G Tm X ad nM 0 0 I J N (gE X Tm ad nM (r.1, r.2.1, N, fun _ => some (.int r.2.2))) 35 4 [(0, .ref (ad a0)), (1, .int p1), (2, .int p2), (3, .int x3)] [] := by
  intro n
  induction n with
  | zero => intro I J x3 h; cases h
  | succ n ih => intro I J x3 h; exact w_Mo_sheet_35b C ha0 ih h
set_option maxRecDepth 20000 in
theorem w_Mo_sheet_0 {X : HX} {ad : Nat → Nat} {I : HI} {J : HJ} {N : HN} {r : HI × HJ × Int32} {a0 : Nat} {p1 : Int32} {p2 : Int32} (C : Cx X c_Mo_sheet RX11 4 (some .int) rm_Mo_sheet) (ha0 : gk Tm nM a0 (0, 11))
    (h : Mo_sheet_0 N a0 p1 p2 I J = some r) : G Tm X ad nM 0 0 I J N (gE X Tm ad nM (r.1, r.2.1, N, fun _ => some (.int r.2.2))) 0 4 [(0, .ref (ad a0)), (1, .int p1), (2, .int p2)] [] := by
  refine g_iload_n (pc := 0) C d_Mo_sheet_0 rfl 1 rfl ?_
  obtain ⟨r1, hc2, h⟩ := o_bn1 h
  refine g_S (pc := 1) (rest := []) C (k_Mo_isSheet (xl X)  hc2) sm_Mo_isSheet ml_Mo_95 st_Mo_isSheet ⟨rfl, rfl, Nat.le_of_ble_eq_true rfl, Nat.le_of_ble_eq_true rfl⟩ ⟨Nat.zero_le _, Nat.zero_le _⟩ rfl rfl (Nat.le_of_ble_eq_true rfl) d_Mo_sheet_1 [.int r1] rfl ?_
  refine g_if_eq (pc := 4) C 13 d_Mo_sheet_4 rfl (fun e3 => ?_) (fun e3 => ?_)
  · have h := o_pos e3 h
    refine g_bipush (pc := 13) C (-2 : Int32) d_Mo_sheet_13 (by decide) ?_
    obtain rfl := o_ret h
    exact g_iret (pc := 15) C d_Mo_sheet_15
  · have h := o_neg e3 h
    refine g_iload_n (pc := 7) C d_Mo_sheet_7 rfl 2 rfl ?_
    refine g_bipush (pc := 8) C (40 : Int32) d_Mo_sheet_8 (by decide) ?_
    refine g_icmp_le (pc := 10) C 16 d_Mo_sheet_10 rfl (fun e4 => ?_) (fun e4 => ?_)
    · have h := o_pos e4 h
      refine g_iload_n (pc := 16) C d_Mo_sheet_16 rfl 2 rfl ?_
      refine g_if_ge (pc := 17) C 26 d_Mo_sheet_17 rfl (fun e5 => ?_) (fun e5 => ?_)
      · have h := o_pos e5 h
        refine g_aload_n (pc := 26) C d_Mo_sheet_26 rfl 0 rfl ?_
        obtain ⟨b6, hnb6, hb6, h⟩ := o_ra h
        refine g_get (pc := 27) (k := 1) (v := va_rf ((N a0 1).map ad)) C gcX11 inX11 (by decide) fl_Mo_7 ha0 rfl d_Mo_sheet_27 ?_
        refine g_top (g_rf hnb6) ?_
        refine g_iload_n (pc := 30) C d_Mo_sheet_30 rfl 1 rfl ?_
        refine g_iload_n (pc := 31) C d_Mo_sheet_31 rfl 2 rfl ?_
        obtain ⟨hi7, h⟩ := o_gd h
        refine g_iast (pc := 32) C hb6 hi7 d_Mo_sheet_32 ?_
        obtain ⟨I8, eI8, h⟩ := o_bd h
        rw [← eI8]
        refine g_iconst (pc := 33) C (0 : Int32) d_Mo_sheet_33 (by decide) ?_
        refine g_istore_n (pc := 34) (lv' := [(3, .int (0 : Int32)), (0, .ref (ad a0)), (1, .int p1), (2, .int p2)]) C d_Mo_sheet_34 rfl (by decide) rfl ?_
        refine g_lv [1, 2, 3, 0] rfl ?_
        exact w_Mo_sheet_35 C ha0 _ _ _ _ h
      · have h := o_neg e5 h
        refine g_aload_n (pc := 20) C d_Mo_sheet_20 rfl 0 rfl ?_
        refine g_iconst (pc := 21) C (3 : Int32) d_Mo_sheet_21 (by decide) ?_
        obtain ⟨I9, r10, hc11, h⟩ := o_bn2 h
        refine g_V (pc := 22) (rest := []) C (k_Mo_finds (xl X) ha0 hc11) sm_Mo_finds ml_Mo_99 im_Mo_finds se_Mo_finds gcX11 rfl ha0 ⟨rfl, rfl, Nat.le_of_ble_eq_true rfl, Nat.le_of_ble_eq_true rfl⟩ ⟨Nat.zero_le _, Nat.zero_le _⟩ rfl rfl (Nat.le_of_ble_eq_true rfl) d_Mo_sheet_22 [.int r10] rfl ?_
        obtain rfl := o_ret h
        exact g_iret (pc := 25) C d_Mo_sheet_25
    · have h := o_neg e4 h
      refine g_bipush (pc := 13) C (-2 : Int32) d_Mo_sheet_13 (by decide) ?_
      obtain rfl := o_ret h
      exact g_iret (pc := 15) C d_Mo_sheet_15
set_option maxRecDepth 20000 in
theorem k_Mo_sheet (l : Launch) {I : HI} {J : HJ} {N : HN} {a0 : Nat} {p1 : Int32} {p2 : Int32} {r : HI × HJ × Int32} (ha0 : gk Tm nM a0 (0, 11)) (h : Mo_sheet N a0 p1 p2 I J = some r) : gM l y_Mo_sheet c_Mo_sheet 4 (some .int) rm_Mo_sheet Tm nM I J N (fun ad => [.ref (ad a0), .int p1, .int p2]) (r.1, r.2.1, N, fun _ => some (.int r.2.2)) :=
  g_meth (lv := fun ad => [(0, .ref (ad a0)), (1, .int p1), (2, .int p2)]) (by decide) (fun _ => Nat.le_of_ble_eq_true rfl) (fun _ => rfl) (fun X ad C => g_lv [0, 1, 2] rfl (w_Mo_sheet_0 C ha0 h))
theorem d_Mo_lose_0 : decode c_Mo_lose 0 = .ok (.iload_n 1, 1) := by decide +kernel
theorem d_Mo_lose_1 : decode c_Mo_lose 1 = .ok (.invokestatic 95, 3) := by decide +kernel
theorem d_Mo_lose_4 : decode c_Mo_lose 4 = .ok (.ifCond .ne 6, 3) := by decide +kernel
theorem d_Mo_lose_7 : decode c_Mo_lose 7 = .ok (.bipush (-2), 2) := by decide +kernel
theorem d_Mo_lose_9 : decode c_Mo_lose 9 = .ok (.ireturn, 1) := by decide +kernel
theorem d_Mo_lose_10 : decode c_Mo_lose 10 = .ok (.aload_n 0, 1) := by decide +kernel
theorem d_Mo_lose_11 : decode c_Mo_lose 11 = .ok (.getfield 7, 3) := by decide +kernel
theorem d_Mo_lose_14 : decode c_Mo_lose 14 = .ok (.iload_n 1, 1) := by decide +kernel
theorem d_Mo_lose_15 : decode c_Mo_lose 15 = .ok (.iaload, 1) := by decide +kernel
theorem d_Mo_lose_16 : decode c_Mo_lose 16 = .ok (.iconst (-1), 1) := by decide +kernel
theorem d_Mo_lose_17 : decode c_Mo_lose 17 = .ok (.if_icmp .ne 9, 3) := by decide +kernel
theorem d_Mo_lose_20 : decode c_Mo_lose 20 = .ok (.aload_n 0, 1) := by decide +kernel
theorem d_Mo_lose_21 : decode c_Mo_lose 21 = .ok (.iconst 1, 1) := by decide +kernel
theorem d_Mo_lose_22 : decode c_Mo_lose 22 = .ok (.invokevirtual 99, 3) := by decide +kernel
theorem d_Mo_lose_25 : decode c_Mo_lose 25 = .ok (.ireturn, 1) := by decide +kernel
theorem d_Mo_lose_26 : decode c_Mo_lose 26 = .ok (.aload_n 0, 1) := by decide +kernel
theorem d_Mo_lose_27 : decode c_Mo_lose 27 = .ok (.getfield 7, 3) := by decide +kernel
theorem d_Mo_lose_30 : decode c_Mo_lose 30 = .ok (.iload_n 1, 1) := by decide +kernel
theorem d_Mo_lose_31 : decode c_Mo_lose 31 = .ok (.iaload, 1) := by decide +kernel
theorem d_Mo_lose_32 : decode c_Mo_lose 32 = .ok (.istore_n 2, 1) := by decide +kernel
theorem d_Mo_lose_33 : decode c_Mo_lose 33 = .ok (.aload_n 0, 1) := by decide +kernel
theorem d_Mo_lose_34 : decode c_Mo_lose 34 = .ok (.getfield 7, 3) := by decide +kernel
theorem d_Mo_lose_37 : decode c_Mo_lose 37 = .ok (.iload_n 1, 1) := by decide +kernel
theorem d_Mo_lose_38 : decode c_Mo_lose 38 = .ok (.iconst (-1), 1) := by decide +kernel
theorem d_Mo_lose_39 : decode c_Mo_lose 39 = .ok (.iastore, 1) := by decide +kernel
theorem d_Mo_lose_40 : decode c_Mo_lose 40 = .ok (.iload_n 2, 1) := by decide +kernel
theorem d_Mo_lose_41 : decode c_Mo_lose 41 = .ok (.ireturn, 1) := by decide +kernel
set_option maxRecDepth 20000 in
theorem w_Mo_lose_0 {X : HX} {ad : Nat → Nat} {I : HI} {J : HJ} {N : HN} {r : HI × Int32} {a0 : Nat} {p1 : Int32} (C : Cx X c_Mo_lose RX11 3 (some .int) rm_Mo_lose) (ha0 : gk Tm nM a0 (0, 11))
    (h : Mo_lose_0 N a0 p1 I = some r) : G Tm X ad nM 0 0 I J N (gE X Tm ad nM (r.1, J, N, fun _ => some (.int r.2))) 0 3 [(0, .ref (ad a0)), (1, .int p1)] [] := by
  refine g_iload_n (pc := 0) C d_Mo_lose_0 rfl 1 rfl ?_
  obtain ⟨r1, hc2, h⟩ := o_bn1 h
  refine g_S (pc := 1) (rest := []) C (k_Mo_isSheet (xl X)  hc2) sm_Mo_isSheet ml_Mo_95 st_Mo_isSheet ⟨rfl, rfl, Nat.le_of_ble_eq_true rfl, Nat.le_of_ble_eq_true rfl⟩ ⟨Nat.zero_le _, Nat.zero_le _⟩ rfl rfl (Nat.le_of_ble_eq_true rfl) d_Mo_lose_1 [.int r1] rfl ?_
  refine g_if_ne (pc := 4) C 10 d_Mo_lose_4 rfl (fun e3 => ?_) (fun e3 => ?_)
  · have h := o_neg e3 h
    refine g_aload_n (pc := 10) C d_Mo_lose_10 rfl 0 rfl ?_
    obtain ⟨b4, hnb4, hb4, h⟩ := o_ra h
    refine g_get (pc := 11) (k := 1) (v := va_rf ((N a0 1).map ad)) C gcX11 inX11 (by decide) fl_Mo_7 ha0 rfl d_Mo_lose_11 ?_
    refine g_top (g_rf hnb4) ?_
    refine g_iload_n (pc := 14) C d_Mo_lose_14 rfl 1 rfl ?_
    obtain ⟨hi5, h⟩ := o_gd h
    refine g_iald (pc := 15) C hb4 hi5 d_Mo_lose_15 ?_
    refine g_iconst (pc := 16) C (-1 : Int32) d_Mo_lose_16 (by decide) ?_
    refine g_icmp_ne (pc := 17) C 26 d_Mo_lose_17 rfl (fun e6 => ?_) (fun e6 => ?_)
    · have h := o_neg e6 h
      refine g_aload_n (pc := 26) C d_Mo_lose_26 rfl 0 rfl ?_
      obtain ⟨b7, hnb7, hb7, h⟩ := o_ra h
      refine g_get (pc := 27) (k := 1) (v := va_rf ((N a0 1).map ad)) C gcX11 inX11 (by decide) fl_Mo_7 ha0 rfl d_Mo_lose_27 ?_
      refine g_top (g_rf hnb7) ?_
      refine g_iload_n (pc := 30) C d_Mo_lose_30 rfl 1 rfl ?_
      obtain ⟨hi8, h⟩ := o_gd h
      refine g_iald (pc := 31) C hb7 hi8 d_Mo_lose_31 ?_
      obtain ⟨v9, ev9, h⟩ := o_bd h
      refine g_topi ev9 ?_
      refine g_istore_n (pc := 32) (lv' := [(2, .int v9), (0, .ref (ad a0)), (1, .int p1)]) C d_Mo_lose_32 rfl (by decide) rfl ?_
      refine g_aload_n (pc := 33) C d_Mo_lose_33 rfl 1 rfl ?_
      obtain ⟨b10, hnb10, hb10, h⟩ := o_ra h
      refine g_get (pc := 34) (k := 1) (v := va_rf ((N a0 1).map ad)) C gcX11 inX11 (by decide) fl_Mo_7 ha0 rfl d_Mo_lose_34 ?_
      refine g_top (g_rf hnb10) ?_
      refine g_iload_n (pc := 37) C d_Mo_lose_37 rfl 2 rfl ?_
      refine g_iconst (pc := 38) C (-1 : Int32) d_Mo_lose_38 (by decide) ?_
      obtain ⟨hi11, h⟩ := o_gd h
      refine g_iast (pc := 39) C hb10 hi11 d_Mo_lose_39 ?_
      obtain ⟨I12, eI12, h⟩ := o_bd h
      rw [← eI12]
      refine g_iload_n (pc := 40) C d_Mo_lose_40 rfl 0 rfl ?_
      obtain rfl := o_ret h
      exact g_iret (pc := 41) C d_Mo_lose_41
    · have h := o_pos e6 h
      refine g_aload_n (pc := 20) C d_Mo_lose_20 rfl 0 rfl ?_
      refine g_iconst (pc := 21) C (1 : Int32) d_Mo_lose_21 (by decide) ?_
      obtain ⟨I13, r14, hc15, h⟩ := o_bn2 h
      refine g_V (pc := 22) (rest := []) C (k_Mo_finds (xl X) ha0 hc15) sm_Mo_finds ml_Mo_99 im_Mo_finds se_Mo_finds gcX11 rfl ha0 ⟨rfl, rfl, Nat.le_of_ble_eq_true rfl, Nat.le_of_ble_eq_true rfl⟩ ⟨Nat.zero_le _, Nat.zero_le _⟩ rfl rfl (Nat.le_of_ble_eq_true rfl) d_Mo_lose_22 [.int r14] rfl ?_
      obtain rfl := o_ret h
      exact g_iret (pc := 25) C d_Mo_lose_25
  · have h := o_pos e3 h
    refine g_bipush (pc := 7) C (-2 : Int32) d_Mo_lose_7 (by decide) ?_
    obtain rfl := o_ret h
    exact g_iret (pc := 9) C d_Mo_lose_9
set_option maxRecDepth 20000 in
theorem k_Mo_lose (l : Launch) {I : HI} {J : HJ} {N : HN} {a0 : Nat} {p1 : Int32} {r : HI × Int32} (ha0 : gk Tm nM a0 (0, 11)) (h : Mo_lose N a0 p1 I = some r) : gM l y_Mo_lose c_Mo_lose 3 (some .int) rm_Mo_lose Tm nM I J N (fun ad => [.ref (ad a0), .int p1]) (r.1, J, N, fun _ => some (.int r.2)) :=
  g_meth (lv := fun ad => [(0, .ref (ad a0)), (1, .int p1)]) (by decide) (fun _ => Nat.le_of_ble_eq_true rfl) (fun _ => rfl) (fun X ad C => g_lv [0, 1] rfl (w_Mo_lose_0 C ha0 h))
theorem d_Mo_lacks_0 : decode c_Mo_lacks 0 = .ok (.aload_n 0, 1) := by decide +kernel
theorem d_Mo_lacks_1 : decode c_Mo_lacks 1 = .ok (.getfield 7, 3) := by decide +kernel
theorem d_Mo_lacks_4 : decode c_Mo_lacks 4 = .ok (.iload_n 1, 1) := by decide +kernel
theorem d_Mo_lacks_5 : decode c_Mo_lacks 5 = .ok (.iaload, 1) := by decide +kernel
theorem d_Mo_lacks_6 : decode c_Mo_lacks 6 = .ok (.iconst (-1), 1) := by decide +kernel
theorem d_Mo_lacks_7 : decode c_Mo_lacks 7 = .ok (.if_icmp .ne 11, 3) := by decide +kernel
theorem d_Mo_lacks_10 : decode c_Mo_lacks 10 = .ok (.aload_n 0, 1) := by decide +kernel
theorem d_Mo_lacks_11 : decode c_Mo_lacks 11 = .ok (.iconst 1, 1) := by decide +kernel
theorem d_Mo_lacks_12 : decode c_Mo_lacks 12 = .ok (.invokevirtual 99, 3) := by decide +kernel
theorem d_Mo_lacks_15 : decode c_Mo_lacks 15 = .ok (.goto 30, 3) := by decide +kernel
theorem d_Mo_lacks_18 : decode c_Mo_lacks 18 = .ok (.iload_n 2, 1) := by decide +kernel
theorem d_Mo_lacks_19 : decode c_Mo_lacks 19 = .ok (.i2l, 1) := by decide +kernel
theorem d_Mo_lacks_20 : decode c_Mo_lacks 20 = .ok (.lconst 0, 1) := by decide +kernel
theorem d_Mo_lacks_21 : decode c_Mo_lacks 21 = .ok (.aload_n 0, 1) := by decide +kernel
theorem d_Mo_lacks_22 : decode c_Mo_lacks 22 = .ok (.getfield 7, 3) := by decide +kernel
theorem d_Mo_lacks_25 : decode c_Mo_lacks 25 = .ok (.iload_n 1, 1) := by decide +kernel
theorem d_Mo_lacks_26 : decode c_Mo_lacks 26 = .ok (.iaload, 1) := by decide +kernel
theorem d_Mo_lacks_27 : decode c_Mo_lacks 27 = .ok (.iconst 1, 1) := by decide +kernel
theorem d_Mo_lacks_28 : decode c_Mo_lacks 28 = .ok (.isub, 1) := by decide +kernel
theorem d_Mo_lacks_29 : decode c_Mo_lacks 29 = .ok (.i2l, 1) := by decide +kernel
theorem d_Mo_lacks_30 : decode c_Mo_lacks 30 = .ok (.invokestatic 83, 3) := by decide +kernel
theorem d_Mo_lacks_33 : decode c_Mo_lacks 33 = .ok (.ifCond .eq 7, 3) := by decide +kernel
theorem d_Mo_lacks_36 : decode c_Mo_lacks 36 = .ok (.iconst 0, 1) := by decide +kernel
theorem d_Mo_lacks_37 : decode c_Mo_lacks 37 = .ok (.goto 8, 3) := by decide +kernel
theorem d_Mo_lacks_40 : decode c_Mo_lacks 40 = .ok (.aload_n 0, 1) := by decide +kernel
theorem d_Mo_lacks_41 : decode c_Mo_lacks 41 = .ok (.iconst 2, 1) := by decide +kernel
theorem d_Mo_lacks_42 : decode c_Mo_lacks 42 = .ok (.invokevirtual 99, 3) := by decide +kernel
theorem d_Mo_lacks_45 : decode c_Mo_lacks 45 = .ok (.ireturn, 1) := by decide +kernel
set_option maxRecDepth 20000 in
theorem w_Mo_lacks_0 {X : HX} {ad : Nat → Nat} {I : HI} {J : HJ} {N : HN} {r : HI × Int32} {a0 : Nat} {p1 : Int32} {p2 : Int32} (C : Cx X c_Mo_lacks RX11 3 (some .int) rm_Mo_lacks) (ha0 : gk Tm nM a0 (0, 11))
    (h : Mo_lacks_0 N a0 p1 p2 I = some r) : G Tm X ad nM 0 0 I J N (gE X Tm ad nM (r.1, J, N, fun _ => some (.int r.2))) 0 3 [(0, .ref (ad a0)), (1, .int p1), (2, .int p2)] [] := by
  refine g_aload_n (pc := 0) C d_Mo_lacks_0 rfl 0 rfl ?_
  obtain ⟨b1, hnb1, hb1, h⟩ := o_ra h
  refine g_get (pc := 1) (k := 1) (v := va_rf ((N a0 1).map ad)) C gcX11 inX11 (by decide) fl_Mo_7 ha0 rfl d_Mo_lacks_1 ?_
  refine g_top (g_rf hnb1) ?_
  refine g_iload_n (pc := 4) C d_Mo_lacks_4 rfl 1 rfl ?_
  obtain ⟨hi2, h⟩ := o_gd h
  refine g_iald (pc := 5) C hb1 hi2 d_Mo_lacks_5 ?_
  refine g_iconst (pc := 6) C (-1 : Int32) d_Mo_lacks_6 (by decide) ?_
  refine g_icmp_ne (pc := 7) C 18 d_Mo_lacks_7 rfl (fun e3 => ?_) (fun e3 => ?_)
  · have h := o_neg e3 h
    refine g_iload_n (pc := 18) C d_Mo_lacks_18 rfl 2 rfl ?_
    refine g_i2l (pc := 19) C d_Mo_lacks_19 ?_
    refine g_lconst (pc := 20) C (0 : Int64) d_Mo_lacks_20 (by decide) ?_
    refine g_aload_n (pc := 21) C d_Mo_lacks_21 rfl 0 rfl ?_
    obtain ⟨b4, hnb4, hb4, h⟩ := o_ra h
    refine g_get (pc := 22) (k := 1) (v := va_rf ((N a0 1).map ad)) C gcX11 inX11 (by decide) fl_Mo_7 ha0 rfl d_Mo_lacks_22 ?_
    refine g_top (g_rf hnb4) ?_
    refine g_iload_n (pc := 25) C d_Mo_lacks_25 rfl 1 rfl ?_
    obtain ⟨hi5, h⟩ := o_gd h
    refine g_iald (pc := 26) C hb4 hi5 d_Mo_lacks_26 ?_
    refine g_iconst (pc := 27) C (1 : Int32) d_Mo_lacks_27 (by decide) ?_
    refine g_isub (pc := 28) C d_Mo_lacks_28 ?_
    refine g_i2l (pc := 29) C d_Mo_lacks_29 ?_
    obtain ⟨r6, hc7, h⟩ := o_bn1 h
    refine g_S (pc := 30) (rest := []) C (k_Mo_in (xl X)  hc7) sm_Mo_in ml_Mo_83 st_Mo_in ⟨rfl, rfl, Nat.le_of_ble_eq_true rfl, Nat.le_of_ble_eq_true rfl⟩ ⟨Nat.zero_le _, Nat.zero_le _⟩ rfl rfl (Nat.le_of_ble_eq_true rfl) d_Mo_lacks_30 [.int r6] rfl ?_
    refine g_if_eq (pc := 33) C 40 d_Mo_lacks_33 rfl (fun e8 => ?_) (fun e8 => ?_)
    · have h := o_pos e8 h
      refine g_aload_n (pc := 40) C d_Mo_lacks_40 rfl 0 rfl ?_
      refine g_iconst (pc := 41) C (2 : Int32) d_Mo_lacks_41 (by decide) ?_
      obtain ⟨I9, r10, hc11, h⟩ := o_bn2 h
      refine g_V (pc := 42) (rest := []) C (k_Mo_finds (xl X) ha0 hc11) sm_Mo_finds ml_Mo_99 im_Mo_finds se_Mo_finds gcX11 rfl ha0 ⟨rfl, rfl, Nat.le_of_ble_eq_true rfl, Nat.le_of_ble_eq_true rfl⟩ ⟨Nat.zero_le _, Nat.zero_le _⟩ rfl rfl (Nat.le_of_ble_eq_true rfl) d_Mo_lacks_42 [.int r10] rfl ?_
      obtain rfl := o_ret h
      exact g_iret (pc := 45) C d_Mo_lacks_45
    · have h := o_neg e8 h
      refine g_iconst (pc := 36) C (0 : Int32) d_Mo_lacks_36 (by decide) ?_
      refine g_goto (pc := 37) C 45 d_Mo_lacks_37 rfl ?_
      obtain rfl := o_ret h
      exact g_iret (pc := 45) C d_Mo_lacks_45
  · have h := o_pos e3 h
    refine g_aload_n (pc := 10) C d_Mo_lacks_10 rfl 0 rfl ?_
    refine g_iconst (pc := 11) C (1 : Int32) d_Mo_lacks_11 (by decide) ?_
    obtain ⟨I12, r13, hc14, h⟩ := o_bn2 h
    refine g_V (pc := 12) (rest := []) C (k_Mo_finds (xl X) ha0 hc14) sm_Mo_finds ml_Mo_99 im_Mo_finds se_Mo_finds gcX11 rfl ha0 ⟨rfl, rfl, Nat.le_of_ble_eq_true rfl, Nat.le_of_ble_eq_true rfl⟩ ⟨Nat.zero_le _, Nat.zero_le _⟩ rfl rfl (Nat.le_of_ble_eq_true rfl) d_Mo_lacks_12 [.int r13] rfl ?_
    refine g_goto (pc := 15) C 45 d_Mo_lacks_15 rfl ?_
    obtain rfl := o_ret h
    exact g_iret (pc := 45) C d_Mo_lacks_45
set_option maxRecDepth 20000 in
theorem k_Mo_lacks (l : Launch) {I : HI} {J : HJ} {N : HN} {a0 : Nat} {p1 : Int32} {p2 : Int32} {r : HI × Int32} (ha0 : gk Tm nM a0 (0, 11)) (h : Mo_lacks N a0 p1 p2 I = some r) : gM l y_Mo_lacks c_Mo_lacks 3 (some .int) rm_Mo_lacks Tm nM I J N (fun ad => [.ref (ad a0), .int p1, .int p2]) (r.1, J, N, fun _ => some (.int r.2)) :=
  g_meth (lv := fun ad => [(0, .ref (ad a0)), (1, .int p1), (2, .int p2)]) (by decide) (fun _ => Nat.le_of_ble_eq_true rfl) (fun _ => rfl) (fun X ad C => g_lv [0, 1, 2] rfl (w_Mo_lacks_0 C ha0 h))
theorem d_Mo_lay_0 : decode c_Mo_lay 0 = .ok (.iload_n 1, 1) := by decide +kernel
theorem d_Mo_lay_1 : decode c_Mo_lay 1 = .ok (.invokestatic 95, 3) := by decide +kernel
theorem d_Mo_lay_4 : decode c_Mo_lay 4 = .ok (.ifCond .ne 6, 3) := by decide +kernel
theorem d_Mo_lay_7 : decode c_Mo_lay 7 = .ok (.bipush (-2), 2) := by decide +kernel
theorem d_Mo_lay_9 : decode c_Mo_lay 9 = .ok (.ireturn, 1) := by decide +kernel
theorem d_Mo_lay_10 : decode c_Mo_lay 10 = .ok (.aload_n 0, 1) := by decide +kernel
theorem d_Mo_lay_11 : decode c_Mo_lay 11 = .ok (.iload_n 1, 1) := by decide +kernel
theorem d_Mo_lay_12 : decode c_Mo_lay 12 = .ok (.iload_n 2, 1) := by decide +kernel
theorem d_Mo_lay_13 : decode c_Mo_lay 13 = .ok (.invokevirtual 103, 3) := by decide +kernel
theorem d_Mo_lay_16 : decode c_Mo_lay 16 = .ok (.istore 4, 2) := by decide +kernel
theorem d_Mo_lay_18 : decode c_Mo_lay 18 = .ok (.iload 4, 2) := by decide +kernel
theorem d_Mo_lay_20 : decode c_Mo_lay 20 = .ok (.ifCond .eq 6, 3) := by decide +kernel
theorem d_Mo_lay_23 : decode c_Mo_lay 23 = .ok (.iload 4, 2) := by decide +kernel
theorem d_Mo_lay_25 : decode c_Mo_lay 25 = .ok (.ireturn, 1) := by decide +kernel
theorem d_Mo_lay_26 : decode c_Mo_lay 26 = .ok (.aload_n 0, 1) := by decide +kernel
theorem d_Mo_lay_27 : decode c_Mo_lay 27 = .ok (.getfield 13, 3) := by decide +kernel
theorem d_Mo_lay_30 : decode c_Mo_lay 30 = .ok (.bipush 40, 2) := by decide +kernel
theorem d_Mo_lay_32 : decode c_Mo_lay 32 = .ok (.iload_n 1, 1) := by decide +kernel
theorem d_Mo_lay_33 : decode c_Mo_lay 33 = .ok (.imul, 1) := by decide +kernel
theorem d_Mo_lay_34 : decode c_Mo_lay 34 = .ok (.iload_n 2, 1) := by decide +kernel
theorem d_Mo_lay_35 : decode c_Mo_lay 35 = .ok (.iadd, 1) := by decide +kernel
theorem d_Mo_lay_36 : decode c_Mo_lay 36 = .ok (.iload_n 3, 1) := by decide +kernel
theorem d_Mo_lay_37 : decode c_Mo_lay 37 = .ok (.i2l, 1) := by decide +kernel
theorem d_Mo_lay_38 : decode c_Mo_lay 38 = .ok (.lastore, 1) := by decide +kernel
theorem d_Mo_lay_39 : decode c_Mo_lay 39 = .ok (.iconst 1, 1) := by decide +kernel
theorem d_Mo_lay_40 : decode c_Mo_lay 40 = .ok (.ireturn, 1) := by decide +kernel
set_option maxRecDepth 20000 in
theorem w_Mo_lay_0 {X : HX} {ad : Nat → Nat} {I : HI} {J : HJ} {N : HN} {r : HI × HJ × Int32} {a0 : Nat} {p1 : Int32} {p2 : Int32} {p3 : Int32} (C : Cx X c_Mo_lay RX11 5 (some .int) rm_Mo_lay) (ha0 : gk Tm nM a0 (0, 11))
    (h : Mo_lay_0 N a0 p1 p2 p3 I J = some r) : G Tm X ad nM 0 0 I J N (gE X Tm ad nM (r.1, r.2.1, N, fun _ => some (.int r.2.2))) 0 5 [(0, .ref (ad a0)), (1, .int p1), (2, .int p2), (3, .int p3)] [] := by
  refine g_iload_n (pc := 0) C d_Mo_lay_0 rfl 1 rfl ?_
  obtain ⟨r1, hc2, h⟩ := o_bn1 h
  refine g_S (pc := 1) (rest := []) C (k_Mo_isSheet (xl X)  hc2) sm_Mo_isSheet ml_Mo_95 st_Mo_isSheet ⟨rfl, rfl, Nat.le_of_ble_eq_true rfl, Nat.le_of_ble_eq_true rfl⟩ ⟨Nat.zero_le _, Nat.zero_le _⟩ rfl rfl (Nat.le_of_ble_eq_true rfl) d_Mo_lay_1 [.int r1] rfl ?_
  refine g_if_ne (pc := 4) C 10 d_Mo_lay_4 rfl (fun e3 => ?_) (fun e3 => ?_)
  · have h := o_neg e3 h
    refine g_aload_n (pc := 10) C d_Mo_lay_10 rfl 0 rfl ?_
    refine g_iload_n (pc := 11) C d_Mo_lay_11 rfl 1 rfl ?_
    refine g_iload_n (pc := 12) C d_Mo_lay_12 rfl 2 rfl ?_
    obtain ⟨I4, r5, hc6, h⟩ := o_bn2 h
    refine g_V (pc := 13) (rest := []) C (k_Mo_lacks (xl X) ha0 hc6) sm_Mo_lacks ml_Mo_103 im_Mo_lacks se_Mo_lacks gcX11 rfl ha0 ⟨rfl, rfl, Nat.le_of_ble_eq_true rfl, Nat.le_of_ble_eq_true rfl⟩ ⟨Nat.zero_le _, Nat.zero_le _⟩ rfl rfl (Nat.le_of_ble_eq_true rfl) d_Mo_lay_13 [.int r5] rfl ?_
    refine g_istore (pc := 16) (lv' := [(4, .int r5), (0, .ref (ad a0)), (1, .int p1), (2, .int p2), (3, .int p3)]) C d_Mo_lay_16 (by decide) rfl ?_
    refine g_iload (pc := 18) C d_Mo_lay_18 0 rfl ?_
    refine g_if_eq (pc := 20) C 26 d_Mo_lay_20 rfl (fun e7 => ?_) (fun e7 => ?_)
    · have h := o_pos e7 h
      refine g_aload_n (pc := 26) C d_Mo_lay_26 rfl 1 rfl ?_
      obtain ⟨b8, hnb8, hb8, h⟩ := o_ra h
      refine g_get (pc := 27) (k := 2) (v := va_rf ((N a0 2).map ad)) C gcX11 inX11 (by decide) fl_Mo_13 ha0 rfl d_Mo_lay_27 ?_
      refine g_top (g_rf hnb8) ?_
      refine g_bipush (pc := 30) C (40 : Int32) d_Mo_lay_30 (by decide) ?_
      refine g_iload_n (pc := 32) C d_Mo_lay_32 rfl 2 rfl ?_
      refine g_imul (pc := 33) C d_Mo_lay_33 ?_
      refine g_iload_n (pc := 34) C d_Mo_lay_34 rfl 3 rfl ?_
      refine g_iadd (pc := 35) C d_Mo_lay_35 ?_
      refine g_iload_n (pc := 36) C d_Mo_lay_36 rfl 4 rfl ?_
      refine g_i2l (pc := 37) C d_Mo_lay_37 ?_
      obtain ⟨hi9, h⟩ := o_gd h
      refine g_last (pc := 38) C hb8 hi9 d_Mo_lay_38 ?_
      obtain ⟨J10, eJ10, h⟩ := o_bd h
      rw [← eJ10]
      refine g_iconst (pc := 39) C (1 : Int32) d_Mo_lay_39 (by decide) ?_
      obtain rfl := o_ret h
      exact g_iret (pc := 40) C d_Mo_lay_40
    · have h := o_neg e7 h
      refine g_iload (pc := 23) C d_Mo_lay_23 0 rfl ?_
      obtain rfl := o_ret h
      exact g_iret (pc := 25) C d_Mo_lay_25
  · have h := o_pos e3 h
    refine g_bipush (pc := 7) C (-2 : Int32) d_Mo_lay_7 (by decide) ?_
    obtain rfl := o_ret h
    exact g_iret (pc := 9) C d_Mo_lay_9
set_option maxRecDepth 20000 in
theorem k_Mo_lay (l : Launch) {I : HI} {J : HJ} {N : HN} {a0 : Nat} {p1 : Int32} {p2 : Int32} {p3 : Int32} {r : HI × HJ × Int32} (ha0 : gk Tm nM a0 (0, 11)) (h : Mo_lay N a0 p1 p2 p3 I J = some r) : gM l y_Mo_lay c_Mo_lay 5 (some .int) rm_Mo_lay Tm nM I J N (fun ad => [.ref (ad a0), .int p1, .int p2, .int p3]) (r.1, r.2.1, N, fun _ => some (.int r.2.2)) :=
  g_meth (lv := fun ad => [(0, .ref (ad a0)), (1, .int p1), (2, .int p2), (3, .int p3)]) (by decide) (fun _ => Nat.le_of_ble_eq_true rfl) (fun _ => rfl) (fun X ad C => g_lv [0, 1, 2, 3] rfl (w_Mo_lay_0 C ha0 h))
theorem d_Mo_get_0 : decode c_Mo_get 0 = .ok (.iload_n 1, 1) := by decide +kernel
theorem d_Mo_get_1 : decode c_Mo_get 1 = .ok (.invokestatic 95, 3) := by decide +kernel
theorem d_Mo_get_4 : decode c_Mo_get 4 = .ok (.ifCond .ne 9, 3) := by decide +kernel
theorem d_Mo_get_7 : decode c_Mo_get 7 = .ok (.bipush (-2), 2) := by decide +kernel
theorem d_Mo_get_9 : decode c_Mo_get 9 = .ok (.invokestatic 107, 3) := by decide +kernel
theorem d_Mo_get_12 : decode c_Mo_get 12 = .ok (.lreturn, 1) := by decide +kernel
theorem d_Mo_get_13 : decode c_Mo_get 13 = .ok (.aload_n 0, 1) := by decide +kernel
theorem d_Mo_get_14 : decode c_Mo_get 14 = .ok (.iload_n 1, 1) := by decide +kernel
theorem d_Mo_get_15 : decode c_Mo_get 15 = .ok (.iload_n 2, 1) := by decide +kernel
theorem d_Mo_get_16 : decode c_Mo_get 16 = .ok (.invokevirtual 103, 3) := by decide +kernel
theorem d_Mo_get_19 : decode c_Mo_get 19 = .ok (.istore_n 3, 1) := by decide +kernel
theorem d_Mo_get_20 : decode c_Mo_get 20 = .ok (.iload_n 3, 1) := by decide +kernel
theorem d_Mo_get_21 : decode c_Mo_get 21 = .ok (.ifCond .eq 10, 3) := by decide +kernel
theorem d_Mo_get_24 : decode c_Mo_get 24 = .ok (.iload_n 3, 1) := by decide +kernel
theorem d_Mo_get_25 : decode c_Mo_get 25 = .ok (.invokestatic 107, 3) := by decide +kernel
theorem d_Mo_get_28 : decode c_Mo_get 28 = .ok (.goto 14, 3) := by decide +kernel
theorem d_Mo_get_31 : decode c_Mo_get 31 = .ok (.aload_n 0, 1) := by decide +kernel
theorem d_Mo_get_32 : decode c_Mo_get 32 = .ok (.getfield 13, 3) := by decide +kernel
theorem d_Mo_get_35 : decode c_Mo_get 35 = .ok (.bipush 40, 2) := by decide +kernel
theorem d_Mo_get_37 : decode c_Mo_get 37 = .ok (.iload_n 1, 1) := by decide +kernel
theorem d_Mo_get_38 : decode c_Mo_get 38 = .ok (.imul, 1) := by decide +kernel
theorem d_Mo_get_39 : decode c_Mo_get 39 = .ok (.iload_n 2, 1) := by decide +kernel
theorem d_Mo_get_40 : decode c_Mo_get 40 = .ok (.iadd, 1) := by decide +kernel
theorem d_Mo_get_41 : decode c_Mo_get 41 = .ok (.laload, 1) := by decide +kernel
theorem d_Mo_get_42 : decode c_Mo_get 42 = .ok (.lreturn, 1) := by decide +kernel
set_option maxRecDepth 20000 in
theorem w_Mo_get_0 {X : HX} {ad : Nat → Nat} {I : HI} {J : HJ} {N : HN} {r : HI × Int64} {a0 : Nat} {p1 : Int32} {p2 : Int32} (C : Cx X c_Mo_get RX11 4 (some .long) rm_Mo_get) (ha0 : gk Tm nM a0 (0, 11))
    (h : Mo_get_0 J N a0 p1 p2 I = some r) : G Tm X ad nM 0 0 I J N (gE X Tm ad nM (r.1, J, N, fun _ => some (.long r.2))) 0 4 [(0, .ref (ad a0)), (1, .int p1), (2, .int p2)] [] := by
  refine g_iload_n (pc := 0) C d_Mo_get_0 rfl 1 rfl ?_
  obtain ⟨r1, hc2, h⟩ := o_bn1 h
  refine g_S (pc := 1) (rest := []) C (k_Mo_isSheet (xl X)  hc2) sm_Mo_isSheet ml_Mo_95 st_Mo_isSheet ⟨rfl, rfl, Nat.le_of_ble_eq_true rfl, Nat.le_of_ble_eq_true rfl⟩ ⟨Nat.zero_le _, Nat.zero_le _⟩ rfl rfl (Nat.le_of_ble_eq_true rfl) d_Mo_get_1 [.int r1] rfl ?_
  refine g_if_ne (pc := 4) C 13 d_Mo_get_4 rfl (fun e3 => ?_) (fun e3 => ?_)
  · have h := o_neg e3 h
    refine g_aload_n (pc := 13) C d_Mo_get_13 rfl 0 rfl ?_
    refine g_iload_n (pc := 14) C d_Mo_get_14 rfl 1 rfl ?_
    refine g_iload_n (pc := 15) C d_Mo_get_15 rfl 2 rfl ?_
    obtain ⟨I4, r5, hc6, h⟩ := o_bn2 h
    refine g_V (pc := 16) (rest := []) C (k_Mo_lacks (xl X) ha0 hc6) sm_Mo_lacks ml_Mo_103 im_Mo_lacks se_Mo_lacks gcX11 rfl ha0 ⟨rfl, rfl, Nat.le_of_ble_eq_true rfl, Nat.le_of_ble_eq_true rfl⟩ ⟨Nat.zero_le _, Nat.zero_le _⟩ rfl rfl (Nat.le_of_ble_eq_true rfl) d_Mo_get_16 [.int r5] rfl ?_
    refine g_istore_n (pc := 19) (lv' := [(3, .int r5), (0, .ref (ad a0)), (1, .int p1), (2, .int p2)]) C d_Mo_get_19 rfl (by decide) rfl ?_
    refine g_iload_n (pc := 20) C d_Mo_get_20 rfl 0 rfl ?_
    refine g_if_eq (pc := 21) C 31 d_Mo_get_21 rfl (fun e7 => ?_) (fun e7 => ?_)
    · have h := o_pos e7 h
      refine g_aload_n (pc := 31) C d_Mo_get_31 rfl 1 rfl ?_
      obtain ⟨b8, hnb8, hb8, h⟩ := o_ra h
      refine g_get (pc := 32) (k := 2) (v := va_rf ((N a0 2).map ad)) C gcX11 inX11 (by decide) fl_Mo_13 ha0 rfl d_Mo_get_32 ?_
      refine g_top (g_rf hnb8) ?_
      refine g_bipush (pc := 35) C (40 : Int32) d_Mo_get_35 (by decide) ?_
      refine g_iload_n (pc := 37) C d_Mo_get_37 rfl 2 rfl ?_
      refine g_imul (pc := 38) C d_Mo_get_38 ?_
      refine g_iload_n (pc := 39) C d_Mo_get_39 rfl 3 rfl ?_
      refine g_iadd (pc := 40) C d_Mo_get_40 ?_
      obtain ⟨hi9, h⟩ := o_gd h
      refine g_lald (pc := 41) C hb8 hi9 d_Mo_get_41 ?_
      obtain rfl := o_ret h
      exact g_lret (pc := 42) C d_Mo_get_42
    · have h := o_neg e7 h
      refine g_iload_n (pc := 24) C d_Mo_get_24 rfl 0 rfl ?_
      obtain ⟨r10, hc11, h⟩ := o_bn1 h
      refine g_S (pc := 25) (rest := []) C (k_Mo_no (xl X)  hc11) sm_Mo_no ml_Mo_107 st_Mo_no ⟨rfl, rfl, Nat.le_of_ble_eq_true rfl, Nat.le_of_ble_eq_true rfl⟩ ⟨Nat.zero_le _, Nat.zero_le _⟩ rfl rfl (Nat.le_of_ble_eq_true rfl) d_Mo_get_25 [.long r10] rfl ?_
      refine g_goto (pc := 28) C 42 d_Mo_get_28 rfl ?_
      obtain rfl := o_ret h
      exact g_lret (pc := 42) C d_Mo_get_42
  · have h := o_pos e3 h
    refine g_bipush (pc := 7) C (-2 : Int32) d_Mo_get_7 (by decide) ?_
    obtain ⟨r12, hc13, h⟩ := o_bn1 h
    refine g_S (pc := 9) (rest := []) C (k_Mo_no (xl X)  hc13) sm_Mo_no ml_Mo_107 st_Mo_no ⟨rfl, rfl, Nat.le_of_ble_eq_true rfl, Nat.le_of_ble_eq_true rfl⟩ ⟨Nat.zero_le _, Nat.zero_le _⟩ rfl rfl (Nat.le_of_ble_eq_true rfl) d_Mo_get_9 [.long r12] rfl ?_
    obtain rfl := o_ret h
    exact g_lret (pc := 12) C d_Mo_get_12
set_option maxRecDepth 20000 in
theorem k_Mo_get (l : Launch) {I : HI} {J : HJ} {N : HN} {a0 : Nat} {p1 : Int32} {p2 : Int32} {r : HI × Int64} (ha0 : gk Tm nM a0 (0, 11)) (h : Mo_get J N a0 p1 p2 I = some r) : gM l y_Mo_get c_Mo_get 4 (some .long) rm_Mo_get Tm nM I J N (fun ad => [.ref (ad a0), .int p1, .int p2]) (r.1, J, N, fun _ => some (.long r.2)) :=
  g_meth (lv := fun ad => [(0, .ref (ad a0)), (1, .int p1), (2, .int p2)]) (by decide) (fun _ => Nat.le_of_ble_eq_true rfl) (fun _ => rfl) (fun X ad C => g_lv [0, 1, 2] rfl (w_Mo_get_0 C ha0 h))
theorem d_Mo_copy_0 : decode c_Mo_copy 0 = .ok (.iload_n 1, 1) := by decide +kernel
theorem d_Mo_copy_1 : decode c_Mo_copy 1 = .ok (.invokestatic 95, 3) := by decide +kernel
theorem d_Mo_copy_4 : decode c_Mo_copy 4 = .ok (.ifCond .eq 10, 3) := by decide +kernel
theorem d_Mo_copy_7 : decode c_Mo_copy 7 = .ok (.iload_n 3, 1) := by decide +kernel
theorem d_Mo_copy_8 : decode c_Mo_copy 8 = .ok (.invokestatic 95, 3) := by decide +kernel
theorem d_Mo_copy_11 : decode c_Mo_copy 11 = .ok (.ifCond .ne 6, 3) := by decide +kernel
theorem d_Mo_copy_14 : decode c_Mo_copy 14 = .ok (.bipush (-2), 2) := by decide +kernel
theorem d_Mo_copy_16 : decode c_Mo_copy 16 = .ok (.ireturn, 1) := by decide +kernel
theorem d_Mo_copy_17 : decode c_Mo_copy 17 = .ok (.aload_n 0, 1) := by decide +kernel
theorem d_Mo_copy_18 : decode c_Mo_copy 18 = .ok (.getfield 7, 3) := by decide +kernel
theorem d_Mo_copy_21 : decode c_Mo_copy 21 = .ok (.iload_n 1, 1) := by decide +kernel
theorem d_Mo_copy_22 : decode c_Mo_copy 22 = .ok (.iaload, 1) := by decide +kernel
theorem d_Mo_copy_23 : decode c_Mo_copy 23 = .ok (.iconst (-1), 1) := by decide +kernel
theorem d_Mo_copy_24 : decode c_Mo_copy 24 = .ok (.if_icmp .eq 13, 3) := by decide +kernel
theorem d_Mo_copy_27 : decode c_Mo_copy 27 = .ok (.aload_n 0, 1) := by decide +kernel
theorem d_Mo_copy_28 : decode c_Mo_copy 28 = .ok (.getfield 7, 3) := by decide +kernel
theorem d_Mo_copy_31 : decode c_Mo_copy 31 = .ok (.iload_n 3, 1) := by decide +kernel
theorem d_Mo_copy_32 : decode c_Mo_copy 32 = .ok (.iaload, 1) := by decide +kernel
theorem d_Mo_copy_33 : decode c_Mo_copy 33 = .ok (.iconst (-1), 1) := by decide +kernel
theorem d_Mo_copy_34 : decode c_Mo_copy 34 = .ok (.if_icmp .ne 9, 3) := by decide +kernel
theorem d_Mo_copy_37 : decode c_Mo_copy 37 = .ok (.aload_n 0, 1) := by decide +kernel
theorem d_Mo_copy_38 : decode c_Mo_copy 38 = .ok (.iconst 1, 1) := by decide +kernel
theorem d_Mo_copy_39 : decode c_Mo_copy 39 = .ok (.invokevirtual 99, 3) := by decide +kernel
theorem d_Mo_copy_42 : decode c_Mo_copy 42 = .ok (.ireturn, 1) := by decide +kernel
theorem d_Mo_copy_43 : decode c_Mo_copy 43 = .ok (.iload_n 2, 1) := by decide +kernel
theorem d_Mo_copy_44 : decode c_Mo_copy 44 = .ok (.ifCond .lt 48, 3) := by decide +kernel
theorem d_Mo_copy_47 : decode c_Mo_copy 47 = .ok (.iload 4, 2) := by decide +kernel
theorem d_Mo_copy_49 : decode c_Mo_copy 49 = .ok (.ifCond .lt 43, 3) := by decide +kernel
theorem d_Mo_copy_52 : decode c_Mo_copy 52 = .ok (.iload 5, 2) := by decide +kernel
theorem d_Mo_copy_54 : decode c_Mo_copy 54 = .ok (.ifCond .lt 38, 3) := by decide +kernel
theorem d_Mo_copy_57 : decode c_Mo_copy 57 = .ok (.iload_n 2, 1) := by decide +kernel
theorem d_Mo_copy_58 : decode c_Mo_copy 58 = .ok (.i2l, 1) := by decide +kernel
theorem d_Mo_copy_59 : decode c_Mo_copy 59 = .ok (.iload 5, 2) := by decide +kernel
theorem d_Mo_copy_61 : decode c_Mo_copy 61 = .ok (.i2l, 1) := by decide +kernel
theorem d_Mo_copy_62 : decode c_Mo_copy 62 = .ok (.ladd, 1) := by decide +kernel
theorem d_Mo_copy_63 : decode c_Mo_copy 63 = .ok (.aload_n 0, 1) := by decide +kernel
theorem d_Mo_copy_64 : decode c_Mo_copy 64 = .ok (.getfield 7, 3) := by decide +kernel
theorem d_Mo_copy_67 : decode c_Mo_copy 67 = .ok (.iload_n 1, 1) := by decide +kernel
theorem d_Mo_copy_68 : decode c_Mo_copy 68 = .ok (.iaload, 1) := by decide +kernel
theorem d_Mo_copy_69 : decode c_Mo_copy 69 = .ok (.i2l, 1) := by decide +kernel
theorem d_Mo_copy_70 : decode c_Mo_copy 70 = .ok (.lcmp, 1) := by decide +kernel
theorem d_Mo_copy_71 : decode c_Mo_copy 71 = .ok (.ifCond .gt 21, 3) := by decide +kernel
theorem d_Mo_copy_74 : decode c_Mo_copy 74 = .ok (.iload 4, 2) := by decide +kernel
theorem d_Mo_copy_76 : decode c_Mo_copy 76 = .ok (.i2l, 1) := by decide +kernel
theorem d_Mo_copy_77 : decode c_Mo_copy 77 = .ok (.iload 5, 2) := by decide +kernel
theorem d_Mo_copy_79 : decode c_Mo_copy 79 = .ok (.i2l, 1) := by decide +kernel
theorem d_Mo_copy_80 : decode c_Mo_copy 80 = .ok (.ladd, 1) := by decide +kernel
theorem d_Mo_copy_81 : decode c_Mo_copy 81 = .ok (.aload_n 0, 1) := by decide +kernel
theorem d_Mo_copy_82 : decode c_Mo_copy 82 = .ok (.getfield 7, 3) := by decide +kernel
theorem d_Mo_copy_85 : decode c_Mo_copy 85 = .ok (.iload_n 3, 1) := by decide +kernel
theorem d_Mo_copy_86 : decode c_Mo_copy 86 = .ok (.iaload, 1) := by decide +kernel
theorem d_Mo_copy_87 : decode c_Mo_copy 87 = .ok (.i2l, 1) := by decide +kernel
theorem d_Mo_copy_88 : decode c_Mo_copy 88 = .ok (.lcmp, 1) := by decide +kernel
theorem d_Mo_copy_89 : decode c_Mo_copy 89 = .ok (.ifCond .le 9, 3) := by decide +kernel
theorem d_Mo_copy_92 : decode c_Mo_copy 92 = .ok (.aload_n 0, 1) := by decide +kernel
theorem d_Mo_copy_93 : decode c_Mo_copy 93 = .ok (.iconst 2, 1) := by decide +kernel
theorem d_Mo_copy_94 : decode c_Mo_copy 94 = .ok (.invokevirtual 99, 3) := by decide +kernel
theorem d_Mo_copy_97 : decode c_Mo_copy 97 = .ok (.ireturn, 1) := by decide +kernel
theorem d_Mo_copy_98 : decode c_Mo_copy 98 = .ok (.iconst 0, 1) := by decide +kernel
theorem d_Mo_copy_99 : decode c_Mo_copy 99 = .ok (.istore 6, 2) := by decide +kernel
theorem d_Mo_copy_101 : decode c_Mo_copy 101 = .ok (.iload 6, 2) := by decide +kernel
theorem d_Mo_copy_103 : decode c_Mo_copy 103 = .ok (.iload 5, 2) := by decide +kernel
theorem d_Mo_copy_105 : decode c_Mo_copy 105 = .ok (.if_icmp .ge 30, 3) := by decide +kernel
theorem d_Mo_copy_108 : decode c_Mo_copy 108 = .ok (.aload_n 0, 1) := by decide +kernel
theorem d_Mo_copy_109 : decode c_Mo_copy 109 = .ok (.getfield 17, 3) := by decide +kernel
theorem d_Mo_copy_112 : decode c_Mo_copy 112 = .ok (.iload 6, 2) := by decide +kernel
theorem d_Mo_copy_114 : decode c_Mo_copy 114 = .ok (.aload_n 0, 1) := by decide +kernel
theorem d_Mo_copy_115 : decode c_Mo_copy 115 = .ok (.getfield 13, 3) := by decide +kernel
theorem d_Mo_copy_118 : decode c_Mo_copy 118 = .ok (.bipush 40, 2) := by decide +kernel
theorem d_Mo_copy_120 : decode c_Mo_copy 120 = .ok (.iload_n 1, 1) := by decide +kernel
theorem d_Mo_copy_121 : decode c_Mo_copy 121 = .ok (.imul, 1) := by decide +kernel
theorem d_Mo_copy_122 : decode c_Mo_copy 122 = .ok (.iload_n 2, 1) := by decide +kernel
theorem d_Mo_copy_123 : decode c_Mo_copy 123 = .ok (.iadd, 1) := by decide +kernel
theorem d_Mo_copy_124 : decode c_Mo_copy 124 = .ok (.iload 6, 2) := by decide +kernel
theorem d_Mo_copy_126 : decode c_Mo_copy 126 = .ok (.iadd, 1) := by decide +kernel
theorem d_Mo_copy_127 : decode c_Mo_copy 127 = .ok (.laload, 1) := by decide +kernel
theorem d_Mo_copy_128 : decode c_Mo_copy 128 = .ok (.lastore, 1) := by decide +kernel
theorem d_Mo_copy_129 : decode c_Mo_copy 129 = .ok (.iinc 6 1, 3) := by decide +kernel
theorem d_Mo_copy_132 : decode c_Mo_copy 132 = .ok (.goto (-31), 3) := by decide +kernel
theorem d_Mo_copy_135 : decode c_Mo_copy 135 = .ok (.iconst 0, 1) := by decide +kernel
theorem d_Mo_copy_136 : decode c_Mo_copy 136 = .ok (.istore 6, 2) := by decide +kernel
theorem d_Mo_copy_138 : decode c_Mo_copy 138 = .ok (.iload 6, 2) := by decide +kernel
theorem d_Mo_copy_140 : decode c_Mo_copy 140 = .ok (.iload 5, 2) := by decide +kernel
theorem d_Mo_copy_142 : decode c_Mo_copy 142 = .ok (.if_icmp .ge 31, 3) := by decide +kernel
theorem d_Mo_copy_145 : decode c_Mo_copy 145 = .ok (.aload_n 0, 1) := by decide +kernel
theorem d_Mo_copy_146 : decode c_Mo_copy 146 = .ok (.getfield 13, 3) := by decide +kernel
theorem d_Mo_copy_149 : decode c_Mo_copy 149 = .ok (.bipush 40, 2) := by decide +kernel
theorem d_Mo_copy_151 : decode c_Mo_copy 151 = .ok (.iload_n 3, 1) := by decide +kernel
theorem d_Mo_copy_152 : decode c_Mo_copy 152 = .ok (.imul, 1) := by decide +kernel
theorem d_Mo_copy_153 : decode c_Mo_copy 153 = .ok (.iload 4, 2) := by decide +kernel
theorem d_Mo_copy_155 : decode c_Mo_copy 155 = .ok (.iadd, 1) := by decide +kernel
theorem d_Mo_copy_156 : decode c_Mo_copy 156 = .ok (.iload 6, 2) := by decide +kernel
theorem d_Mo_copy_158 : decode c_Mo_copy 158 = .ok (.iadd, 1) := by decide +kernel
theorem d_Mo_copy_159 : decode c_Mo_copy 159 = .ok (.aload_n 0, 1) := by decide +kernel
theorem d_Mo_copy_160 : decode c_Mo_copy 160 = .ok (.getfield 17, 3) := by decide +kernel
theorem d_Mo_copy_163 : decode c_Mo_copy 163 = .ok (.iload 6, 2) := by decide +kernel
theorem d_Mo_copy_165 : decode c_Mo_copy 165 = .ok (.laload, 1) := by decide +kernel
theorem d_Mo_copy_166 : decode c_Mo_copy 166 = .ok (.lastore, 1) := by decide +kernel
theorem d_Mo_copy_167 : decode c_Mo_copy 167 = .ok (.iinc 6 1, 3) := by decide +kernel
theorem d_Mo_copy_170 : decode c_Mo_copy 170 = .ok (.goto (-32), 3) := by decide +kernel
theorem d_Mo_copy_173 : decode c_Mo_copy 173 = .ok (.iconst 1, 1) := by decide +kernel
theorem d_Mo_copy_174 : decode c_Mo_copy 174 = .ok (.ireturn, 1) := by decide +kernel
set_option maxRecDepth 20000 in
theorem w_Mo_copy_138b {X : HX} {ad : Nat → Nat} {I : HI} {J : HJ} {N : HN} {r : HI × HJ × Int32} {k138 : HI → HJ → Int32 → Option (HI × HJ × Int32)} {a0 : Nat} {p1 : Int32} {p2 : Int32} {p3 : Int32} {p4 : Int32} {p5 : Int32} {x6 : Int32} (C : Cx X c_Mo_copy RX11 7 (some .int) rm_Mo_copy) (ha0 : gk Tm nM a0 (0, 11))
    (hk138 : ∀ (I : HI) (J : HJ) (x6 : Int32), k138 I J x6 = some r → G Tm X ad nM 0 0 I J N (gE X Tm ad nM (r.1, r.2.1, N, fun _ => some (.int r.2.2))) 138 7 [(0, .ref (ad a0)), (3, .int p3), (4, .int p4), (5, .int p5), (6, .int x6)] [])
    (h : Mo_copy_138b N a0 p1 p2 p3 p4 p5 k138 I J x6 = some r) : G Tm X ad nM 0 0 I J N (gE X Tm ad nM (r.1, r.2.1, N, fun _ => some (.int r.2.2))) 138 7 [(0, .ref (ad a0)), (3, .int p3), (4, .int p4), (5, .int p5), (6, .int x6)] [] := by
  refine g_iload (pc := 138) C d_Mo_copy_138 4 rfl ?_
  refine g_iload (pc := 140) C d_Mo_copy_140 3 rfl ?_
  refine g_icmp_ge (pc := 142) C 173 d_Mo_copy_142 rfl (fun e1 => ?_) (fun e1 => ?_)
  · have h := o_pos e1 h
    refine g_iconst (pc := 173) C (1 : Int32) d_Mo_copy_173 (by decide) ?_
    obtain rfl := o_ret h
    exact g_iret (pc := 174) C d_Mo_copy_174
  · have h := o_neg e1 h
    refine g_aload_n (pc := 145) C d_Mo_copy_145 rfl 0 rfl ?_
    obtain ⟨b2, hnb2, hb2, h⟩ := o_ra h
    refine g_get (pc := 146) (k := 2) (v := va_rf ((N a0 2).map ad)) C gcX11 inX11 (by decide) fl_Mo_13 ha0 rfl d_Mo_copy_146 ?_
    refine g_top (g_rf hnb2) ?_
    refine g_bipush (pc := 149) C (40 : Int32) d_Mo_copy_149 (by decide) ?_
    refine g_iload_n (pc := 151) C d_Mo_copy_151 rfl 1 rfl ?_
    refine g_imul (pc := 152) C d_Mo_copy_152 ?_
    refine g_iload (pc := 153) C d_Mo_copy_153 2 rfl ?_
    refine g_iadd (pc := 155) C d_Mo_copy_155 ?_
    refine g_iload (pc := 156) C d_Mo_copy_156 4 rfl ?_
    refine g_iadd (pc := 158) C d_Mo_copy_158 ?_
    refine g_aload_n (pc := 159) C d_Mo_copy_159 rfl 0 rfl ?_
    obtain ⟨b3, hnb3, hb3, h⟩ := o_ra h
    refine g_get (pc := 160) (k := 3) (v := va_rf ((N a0 3).map ad)) C gcX11 inX11 (by decide) fl_Mo_17 ha0 rfl d_Mo_copy_160 ?_
    refine g_top (g_rf hnb3) ?_
    refine g_iload (pc := 163) C d_Mo_copy_163 4 rfl ?_
    obtain ⟨hi4, h⟩ := o_gd h
    refine g_lald (pc := 165) C hb3 hi4 d_Mo_copy_165 ?_
    obtain ⟨hi5, h⟩ := o_gd h
    refine g_last (pc := 166) C hb2 hi5 d_Mo_copy_166 ?_
    obtain ⟨J6, eJ6, h⟩ := o_bd h
    rw [← eJ6]
    refine g_iinc (pc := 167) (q := 4) (lv' := [(6, .int (x6 + 1)), (0, .ref (ad a0)), (3, .int p3), (4, .int p4), (5, .int p5)]) C d_Mo_copy_167 rfl rfl (by decide) rfl ?_
    refine g_goto (pc := 170) C 138 d_Mo_copy_170 rfl ?_
    refine g_lv [1, 2, 3, 4, 0] rfl ?_
    exact hk138 _ _ _ h
set_option maxRecDepth 20000 in
theorem w_Mo_copy_138 {X : HX} {ad : Nat → Nat} {N : HN} {r : HI × HJ × Int32} {a0 : Nat} {p1 : Int32} {p2 : Int32} {p3 : Int32} {p4 : Int32} {p5 : Int32} (C : Cx X c_Mo_copy RX11 7 (some .int) rm_Mo_copy) (ha0 : gk Tm nM a0 (0, 11)) : ∀ (n : Nat) (I : HI) (J : HJ) (x6 : Int32), Mo_copy_138 N a0 p1 p2 p3 p4 p5 n I J x6 = some r → G Tm X ad nM 0 0 I J N (gE X Tm ad nM (r.1, r.2.1, N, fun _ => some (.int r.2.2))) 138 7 [(0, .ref (ad a0)), (3, .int p3), (4, .int p4), (5, .int p5), (6, .int x6)] [] := by
  intro n
  induction n with
  | zero => intro I J x6 h; cases h
  | succ n ih => intro I J x6 h; exact w_Mo_copy_138b C ha0 ih h
set_option maxRecDepth 20000 in
theorem w_Mo_copy_101b {X : HX} {ad : Nat → Nat} {I : HI} {J : HJ} {N : HN} {r : HI × HJ × Int32} {k101 : HI → HJ → Int32 → Option (HI × HJ × Int32)} {a0 : Nat} {p1 : Int32} {p2 : Int32} {p3 : Int32} {p4 : Int32} {p5 : Int32} {x6 : Int32} (C : Cx X c_Mo_copy RX11 7 (some .int) rm_Mo_copy) (ha0 : gk Tm nM a0 (0, 11))
    (hk101 : ∀ (I : HI) (J : HJ) (x6 : Int32), k101 I J x6 = some r → G Tm X ad nM 0 0 I J N (gE X Tm ad nM (r.1, r.2.1, N, fun _ => some (.int r.2.2))) 101 7 [(0, .ref (ad a0)), (1, .int p1), (2, .int p2), (3, .int p3), (4, .int p4), (5, .int p5), (6, .int x6)] [])
    (h : Mo_copy_101b N a0 p1 p2 p3 p4 p5 k101 I J x6 = some r) : G Tm X ad nM 0 0 I J N (gE X Tm ad nM (r.1, r.2.1, N, fun _ => some (.int r.2.2))) 101 7 [(0, .ref (ad a0)), (1, .int p1), (2, .int p2), (3, .int p3), (4, .int p4), (5, .int p5), (6, .int x6)] [] := by
  refine g_iload (pc := 101) C d_Mo_copy_101 6 rfl ?_
  refine g_iload (pc := 103) C d_Mo_copy_103 5 rfl ?_
  refine g_icmp_ge (pc := 105) C 135 d_Mo_copy_105 rfl (fun e1 => ?_) (fun e1 => ?_)
  · have h := o_pos e1 h
    refine g_iconst (pc := 135) C (0 : Int32) d_Mo_copy_135 (by decide) ?_
    refine g_istore (pc := 136) (lv' := [(6, .int (0 : Int32)), (0, .ref (ad a0)), (1, .int p1), (2, .int p2), (3, .int p3), (4, .int p4), (5, .int p5)]) C d_Mo_copy_136 (by decide) rfl ?_
    refine g_lv [1, 4, 5, 6, 0] rfl ?_
    exact w_Mo_copy_138 C ha0 _ _ _ _ h
  · have h := o_neg e1 h
    refine g_aload_n (pc := 108) C d_Mo_copy_108 rfl 0 rfl ?_
    obtain ⟨b2, hnb2, hb2, h⟩ := o_ra h
    refine g_get (pc := 109) (k := 3) (v := va_rf ((N a0 3).map ad)) C gcX11 inX11 (by decide) fl_Mo_17 ha0 rfl d_Mo_copy_109 ?_
    refine g_top (g_rf hnb2) ?_
    refine g_iload (pc := 112) C d_Mo_copy_112 6 rfl ?_
    refine g_aload_n (pc := 114) C d_Mo_copy_114 rfl 0 rfl ?_
    obtain ⟨b3, hnb3, hb3, h⟩ := o_ra h
    refine g_get (pc := 115) (k := 2) (v := va_rf ((N a0 2).map ad)) C gcX11 inX11 (by decide) fl_Mo_13 ha0 rfl d_Mo_copy_115 ?_
    refine g_top (g_rf hnb3) ?_
    refine g_bipush (pc := 118) C (40 : Int32) d_Mo_copy_118 (by decide) ?_
    refine g_iload_n (pc := 120) C d_Mo_copy_120 rfl 1 rfl ?_
    refine g_imul (pc := 121) C d_Mo_copy_121 ?_
    refine g_iload_n (pc := 122) C d_Mo_copy_122 rfl 2 rfl ?_
    refine g_iadd (pc := 123) C d_Mo_copy_123 ?_
    refine g_iload (pc := 124) C d_Mo_copy_124 6 rfl ?_
    refine g_iadd (pc := 126) C d_Mo_copy_126 ?_
    obtain ⟨hi4, h⟩ := o_gd h
    refine g_lald (pc := 127) C hb3 hi4 d_Mo_copy_127 ?_
    obtain ⟨hi5, h⟩ := o_gd h
    refine g_last (pc := 128) C hb2 hi5 d_Mo_copy_128 ?_
    obtain ⟨J6, eJ6, h⟩ := o_bd h
    rw [← eJ6]
    refine g_iinc (pc := 129) (q := 6) (lv' := [(6, .int (x6 + 1)), (0, .ref (ad a0)), (1, .int p1), (2, .int p2), (3, .int p3), (4, .int p4), (5, .int p5)]) C d_Mo_copy_129 rfl rfl (by decide) rfl ?_
    refine g_goto (pc := 132) C 101 d_Mo_copy_132 rfl ?_
    refine g_lv [1, 2, 3, 4, 5, 6, 0] rfl ?_
    exact hk101 _ _ _ h
set_option maxRecDepth 20000 in
theorem w_Mo_copy_101 {X : HX} {ad : Nat → Nat} {N : HN} {r : HI × HJ × Int32} {a0 : Nat} {p1 : Int32} {p2 : Int32} {p3 : Int32} {p4 : Int32} {p5 : Int32} (C : Cx X c_Mo_copy RX11 7 (some .int) rm_Mo_copy) (ha0 : gk Tm nM a0 (0, 11)) : ∀ (n : Nat) (I : HI) (J : HJ) (x6 : Int32), Mo_copy_101 N a0 p1 p2 p3 p4 p5 n I J x6 = some r → G Tm X ad nM 0 0 I J N (gE X Tm ad nM (r.1, r.2.1, N, fun _ => some (.int r.2.2))) 101 7 [(0, .ref (ad a0)), (1, .int p1), (2, .int p2), (3, .int p3), (4, .int p4), (5, .int p5), (6, .int x6)] [] := by
  intro n
  induction n with
  | zero => intro I J x6 h; cases h
  | succ n ih => intro I J x6 h; exact w_Mo_copy_101b C ha0 ih h
set_option maxRecDepth 20000 in
theorem w_Mo_copy_92 {X : HX} {ad : Nat → Nat} {I : HI} {J : HJ} {N : HN} {r : HI × HJ × Int32} {a0 : Nat} {p1 : Int32} {p2 : Int32} {p3 : Int32} {p4 : Int32} {p5 : Int32} (C : Cx X c_Mo_copy RX11 7 (some .int) rm_Mo_copy) (ha0 : gk Tm nM a0 (0, 11))
    (h : Mo_copy_92 N a0 p1 p2 p3 p4 p5 I J = some r) : G Tm X ad nM 0 0 I J N (gE X Tm ad nM (r.1, r.2.1, N, fun _ => some (.int r.2.2))) 92 7 [(0, .ref (ad a0))] [] := by
  refine g_aload_n (pc := 92) C d_Mo_copy_92 rfl 0 rfl ?_
  refine g_iconst (pc := 93) C (2 : Int32) d_Mo_copy_93 (by decide) ?_
  obtain ⟨I1, r2, hc3, h⟩ := o_bn2 h
  refine g_V (pc := 94) (rest := []) C (k_Mo_finds (xl X) ha0 hc3) sm_Mo_finds ml_Mo_99 im_Mo_finds se_Mo_finds gcX11 rfl ha0 ⟨rfl, rfl, Nat.le_of_ble_eq_true rfl, Nat.le_of_ble_eq_true rfl⟩ ⟨Nat.zero_le _, Nat.zero_le _⟩ rfl rfl (Nat.le_of_ble_eq_true rfl) d_Mo_copy_94 [.int r2] rfl ?_
  obtain rfl := o_ret h
  exact g_iret (pc := 97) C d_Mo_copy_97
set_option maxRecDepth 20000 in
theorem w_Mo_copy_37 {X : HX} {ad : Nat → Nat} {I : HI} {J : HJ} {N : HN} {r : HI × HJ × Int32} {a0 : Nat} {p1 : Int32} {p2 : Int32} {p3 : Int32} {p4 : Int32} {p5 : Int32} (C : Cx X c_Mo_copy RX11 7 (some .int) rm_Mo_copy) (ha0 : gk Tm nM a0 (0, 11))
    (h : Mo_copy_37 N a0 p1 p2 p3 p4 p5 I J = some r) : G Tm X ad nM 0 0 I J N (gE X Tm ad nM (r.1, r.2.1, N, fun _ => some (.int r.2.2))) 37 7 [(0, .ref (ad a0))] [] := by
  refine g_aload_n (pc := 37) C d_Mo_copy_37 rfl 0 rfl ?_
  refine g_iconst (pc := 38) C (1 : Int32) d_Mo_copy_38 (by decide) ?_
  obtain ⟨I1, r2, hc3, h⟩ := o_bn2 h
  refine g_V (pc := 39) (rest := []) C (k_Mo_finds (xl X) ha0 hc3) sm_Mo_finds ml_Mo_99 im_Mo_finds se_Mo_finds gcX11 rfl ha0 ⟨rfl, rfl, Nat.le_of_ble_eq_true rfl, Nat.le_of_ble_eq_true rfl⟩ ⟨Nat.zero_le _, Nat.zero_le _⟩ rfl rfl (Nat.le_of_ble_eq_true rfl) d_Mo_copy_39 [.int r2] rfl ?_
  obtain rfl := o_ret h
  exact g_iret (pc := 42) C d_Mo_copy_42
set_option maxRecDepth 20000 in
theorem w_Mo_copy_0 {X : HX} {ad : Nat → Nat} {I : HI} {J : HJ} {N : HN} {r : HI × HJ × Int32} {a0 : Nat} {p1 : Int32} {p2 : Int32} {p3 : Int32} {p4 : Int32} {p5 : Int32} (C : Cx X c_Mo_copy RX11 7 (some .int) rm_Mo_copy) (ha0 : gk Tm nM a0 (0, 11))
    (h : Mo_copy_0 N a0 p1 p2 p3 p4 p5 I J = some r) : G Tm X ad nM 0 0 I J N (gE X Tm ad nM (r.1, r.2.1, N, fun _ => some (.int r.2.2))) 0 7 [(0, .ref (ad a0)), (1, .int p1), (2, .int p2), (3, .int p3), (4, .int p4), (5, .int p5)] [] := by
  refine g_iload_n (pc := 0) C d_Mo_copy_0 rfl 1 rfl ?_
  obtain ⟨r1, hc2, h⟩ := o_bn1 h
  refine g_S (pc := 1) (rest := []) C (k_Mo_isSheet (xl X)  hc2) sm_Mo_isSheet ml_Mo_95 st_Mo_isSheet ⟨rfl, rfl, Nat.le_of_ble_eq_true rfl, Nat.le_of_ble_eq_true rfl⟩ ⟨Nat.zero_le _, Nat.zero_le _⟩ rfl rfl (Nat.le_of_ble_eq_true rfl) d_Mo_copy_1 [.int r1] rfl ?_
  refine g_if_eq (pc := 4) C 14 d_Mo_copy_4 rfl (fun e3 => ?_) (fun e3 => ?_)
  · have h := o_pos e3 h
    refine g_bipush (pc := 14) C (-2 : Int32) d_Mo_copy_14 (by decide) ?_
    obtain rfl := o_ret h
    exact g_iret (pc := 16) C d_Mo_copy_16
  · have h := o_neg e3 h
    refine g_iload_n (pc := 7) C d_Mo_copy_7 rfl 3 rfl ?_
    obtain ⟨r4, hc5, h⟩ := o_bn1 h
    refine g_S (pc := 8) (rest := []) C (k_Mo_isSheet (xl X)  hc5) sm_Mo_isSheet ml_Mo_95 st_Mo_isSheet ⟨rfl, rfl, Nat.le_of_ble_eq_true rfl, Nat.le_of_ble_eq_true rfl⟩ ⟨Nat.zero_le _, Nat.zero_le _⟩ rfl rfl (Nat.le_of_ble_eq_true rfl) d_Mo_copy_8 [.int r4] rfl ?_
    refine g_if_ne (pc := 11) C 17 d_Mo_copy_11 rfl (fun e6 => ?_) (fun e6 => ?_)
    · have h := o_neg e6 h
      refine g_aload_n (pc := 17) C d_Mo_copy_17 rfl 0 rfl ?_
      obtain ⟨b7, hnb7, hb7, h⟩ := o_ra h
      refine g_get (pc := 18) (k := 1) (v := va_rf ((N a0 1).map ad)) C gcX11 inX11 (by decide) fl_Mo_7 ha0 rfl d_Mo_copy_18 ?_
      refine g_top (g_rf hnb7) ?_
      refine g_iload_n (pc := 21) C d_Mo_copy_21 rfl 1 rfl ?_
      obtain ⟨hi8, h⟩ := o_gd h
      refine g_iald (pc := 22) C hb7 hi8 d_Mo_copy_22 ?_
      refine g_iconst (pc := 23) C (-1 : Int32) d_Mo_copy_23 (by decide) ?_
      refine g_icmp_eq (pc := 24) C 37 d_Mo_copy_24 rfl (fun e9 => ?_) (fun e9 => ?_)
      · have h := o_pos e9 h
        refine g_lv [0] rfl ?_
        exact w_Mo_copy_37 C ha0 h
      · have h := o_neg e9 h
        refine g_aload_n (pc := 27) C d_Mo_copy_27 rfl 0 rfl ?_
        obtain ⟨b10, hnb10, hb10, h⟩ := o_ra h
        refine g_get (pc := 28) (k := 1) (v := va_rf ((N a0 1).map ad)) C gcX11 inX11 (by decide) fl_Mo_7 ha0 rfl d_Mo_copy_28 ?_
        refine g_top (g_rf hnb10) ?_
        refine g_iload_n (pc := 31) C d_Mo_copy_31 rfl 3 rfl ?_
        obtain ⟨hi11, h⟩ := o_gd h
        refine g_iald (pc := 32) C hb10 hi11 d_Mo_copy_32 ?_
        refine g_iconst (pc := 33) C (-1 : Int32) d_Mo_copy_33 (by decide) ?_
        refine g_icmp_ne (pc := 34) C 43 d_Mo_copy_34 rfl (fun e12 => ?_) (fun e12 => ?_)
        · have h := o_neg e12 h
          refine g_iload_n (pc := 43) C d_Mo_copy_43 rfl 2 rfl ?_
          refine g_if_lt (pc := 44) C 92 d_Mo_copy_44 rfl (fun e13 => ?_) (fun e13 => ?_)
          · have h := o_pos e13 h
            refine g_lv [0] rfl ?_
            exact w_Mo_copy_92 C ha0 h
          · have h := o_neg e13 h
            refine g_iload (pc := 47) C d_Mo_copy_47 4 rfl ?_
            refine g_if_lt (pc := 49) C 92 d_Mo_copy_49 rfl (fun e14 => ?_) (fun e14 => ?_)
            · have h := o_pos e14 h
              refine g_lv [0] rfl ?_
              exact w_Mo_copy_92 C ha0 h
            · have h := o_neg e14 h
              refine g_iload (pc := 52) C d_Mo_copy_52 5 rfl ?_
              refine g_if_lt (pc := 54) C 92 d_Mo_copy_54 rfl (fun e15 => ?_) (fun e15 => ?_)
              · have h := o_pos e15 h
                refine g_lv [0] rfl ?_
                exact w_Mo_copy_92 C ha0 h
              · have h := o_neg e15 h
                refine g_iload_n (pc := 57) C d_Mo_copy_57 rfl 2 rfl ?_
                refine g_i2l (pc := 58) C d_Mo_copy_58 ?_
                refine g_iload (pc := 59) C d_Mo_copy_59 5 rfl ?_
                refine g_i2l (pc := 61) C d_Mo_copy_61 ?_
                refine g_ladd (pc := 62) C d_Mo_copy_62 ?_
                refine g_aload_n (pc := 63) C d_Mo_copy_63 rfl 0 rfl ?_
                obtain ⟨b16, hnb16, hb16, h⟩ := o_ra h
                refine g_get (pc := 64) (k := 1) (v := va_rf ((N a0 1).map ad)) C gcX11 inX11 (by decide) fl_Mo_7 ha0 rfl d_Mo_copy_64 ?_
                refine g_top (g_rf hnb16) ?_
                refine g_iload_n (pc := 67) C d_Mo_copy_67 rfl 1 rfl ?_
                obtain ⟨hi17, h⟩ := o_gd h
                refine g_iald (pc := 68) C hb16 hi17 d_Mo_copy_68 ?_
                refine g_i2l (pc := 69) C d_Mo_copy_69 ?_
                refine g_lcmp_gt (pc := 70) C 92 d_Mo_copy_70 d_Mo_copy_71 rfl (fun e18 => ?_) (fun e18 => ?_)
                · have h := o_pos e18 h
                  refine g_lv [0] rfl ?_
                  exact w_Mo_copy_92 C ha0 h
                · have h := o_neg e18 h
                  refine g_iload (pc := 74) C d_Mo_copy_74 4 rfl ?_
                  refine g_i2l (pc := 76) C d_Mo_copy_76 ?_
                  refine g_iload (pc := 77) C d_Mo_copy_77 5 rfl ?_
                  refine g_i2l (pc := 79) C d_Mo_copy_79 ?_
                  refine g_ladd (pc := 80) C d_Mo_copy_80 ?_
                  refine g_aload_n (pc := 81) C d_Mo_copy_81 rfl 0 rfl ?_
                  obtain ⟨b19, hnb19, hb19, h⟩ := o_ra h
                  refine g_get (pc := 82) (k := 1) (v := va_rf ((N a0 1).map ad)) C gcX11 inX11 (by decide) fl_Mo_7 ha0 rfl d_Mo_copy_82 ?_
                  refine g_top (g_rf hnb19) ?_
                  refine g_iload_n (pc := 85) C d_Mo_copy_85 rfl 3 rfl ?_
                  obtain ⟨hi20, h⟩ := o_gd h
                  refine g_iald (pc := 86) C hb19 hi20 d_Mo_copy_86 ?_
                  refine g_i2l (pc := 87) C d_Mo_copy_87 ?_
                  refine g_lcmp_le (pc := 88) C 98 d_Mo_copy_88 d_Mo_copy_89 rfl (fun e21 => ?_) (fun e21 => ?_)
                  · have h := o_pos e21 h
                    refine g_iconst (pc := 98) C (0 : Int32) d_Mo_copy_98 (by decide) ?_
                    refine g_istore (pc := 99) (lv' := [(6, .int (0 : Int32)), (0, .ref (ad a0)), (1, .int p1), (2, .int p2), (3, .int p3), (4, .int p4), (5, .int p5)]) C d_Mo_copy_99 (by decide) rfl ?_
                    refine g_lv [1, 2, 3, 4, 5, 6, 0] rfl ?_
                    exact w_Mo_copy_101 C ha0 _ _ _ _ h
                  · have h := o_neg e21 h
                    refine g_lv [0] rfl ?_
                    exact w_Mo_copy_92 C ha0 h
        · have h := o_pos e12 h
          refine g_lv [0] rfl ?_
          exact w_Mo_copy_37 C ha0 h
    · have h := o_pos e6 h
      refine g_bipush (pc := 14) C (-2 : Int32) d_Mo_copy_14 (by decide) ?_
      obtain rfl := o_ret h
      exact g_iret (pc := 16) C d_Mo_copy_16
set_option maxRecDepth 20000 in
theorem k_Mo_copy (l : Launch) {I : HI} {J : HJ} {N : HN} {a0 : Nat} {p1 : Int32} {p2 : Int32} {p3 : Int32} {p4 : Int32} {p5 : Int32} {r : HI × HJ × Int32} (ha0 : gk Tm nM a0 (0, 11)) (h : Mo_copy N a0 p1 p2 p3 p4 p5 I J = some r) : gM l y_Mo_copy c_Mo_copy 7 (some .int) rm_Mo_copy Tm nM I J N (fun ad => [.ref (ad a0), .int p1, .int p2, .int p3, .int p4, .int p5]) (r.1, r.2.1, N, fun _ => some (.int r.2.2)) :=
  g_meth (lv := fun ad => [(0, .ref (ad a0)), (1, .int p1), (2, .int p2), (3, .int p3), (4, .int p4), (5, .int p5)]) (by decide) (fun _ => Nat.le_of_ble_eq_true rfl) (fun _ => rfl) (fun X ad C => g_lv [0, 1, 2, 3, 4, 5] rfl (w_Mo_copy_0 C ha0 h))
theorem d_Mo_tell_0 : decode c_Mo_tell 0 = .ok (.iload_n 1, 1) := by decide +kernel
theorem d_Mo_tell_1 : decode c_Mo_tell 1 = .ok (.invokestatic 111, 3) := by decide +kernel
theorem d_Mo_tell_4 : decode c_Mo_tell 4 = .ok (.ifCond .eq 29, 3) := by decide +kernel
theorem d_Mo_tell_7 : decode c_Mo_tell 7 = .ok (.iload_n 2, 1) := by decide +kernel
theorem d_Mo_tell_8 : decode c_Mo_tell 8 = .ok (.i2l, 1) := by decide +kernel
theorem d_Mo_tell_9 : decode c_Mo_tell 9 = .ok (.lconst 0, 1) := by decide +kernel
theorem d_Mo_tell_10 : decode c_Mo_tell 10 = .ok (.ldc2_w 114, 3) := by decide +kernel
theorem d_Mo_tell_13 : decode c_Mo_tell 13 = .ok (.invokestatic 83, 3) := by decide +kernel
theorem d_Mo_tell_16 : decode c_Mo_tell 16 = .ok (.ifCond .eq 17, 3) := by decide +kernel
theorem d_Mo_tell_19 : decode c_Mo_tell 19 = .ok (.iload_n 3, 1) := by decide +kernel
theorem d_Mo_tell_20 : decode c_Mo_tell 20 = .ok (.i2l, 1) := by decide +kernel
theorem d_Mo_tell_21 : decode c_Mo_tell 21 = .ok (.ldc2_w 116, 3) := by decide +kernel
theorem d_Mo_tell_24 : decode c_Mo_tell 24 = .ok (.ldc2_w 118, 3) := by decide +kernel
theorem d_Mo_tell_27 : decode c_Mo_tell 27 = .ok (.invokestatic 83, 3) := by decide +kernel
theorem d_Mo_tell_30 : decode c_Mo_tell 30 = .ok (.ifCond .ne 6, 3) := by decide +kernel
theorem d_Mo_tell_33 : decode c_Mo_tell 33 = .ok (.ldc 120, 2) := by decide +kernel
theorem d_Mo_tell_35 : decode c_Mo_tell 35 = .ok (.ireturn, 1) := by decide +kernel
theorem d_Mo_tell_36 : decode c_Mo_tell 36 = .ok (.aload_n 0, 1) := by decide +kernel
theorem d_Mo_tell_37 : decode c_Mo_tell 37 = .ok (.getfield 20, 3) := by decide +kernel
theorem d_Mo_tell_40 : decode c_Mo_tell 40 = .ok (.bipush 7, 2) := by decide +kernel
theorem d_Mo_tell_42 : decode c_Mo_tell 42 = .ok (.iload_n 1, 1) := by decide +kernel
theorem d_Mo_tell_43 : decode c_Mo_tell 43 = .ok (.imul, 1) := by decide +kernel
theorem d_Mo_tell_44 : decode c_Mo_tell 44 = .ok (.iload_n 2, 1) := by decide +kernel
theorem d_Mo_tell_45 : decode c_Mo_tell 45 = .ok (.iadd, 1) := by decide +kernel
theorem d_Mo_tell_46 : decode c_Mo_tell 46 = .ok (.iaload, 1) := by decide +kernel
theorem d_Mo_tell_47 : decode c_Mo_tell 47 = .ok (.istore 4, 2) := by decide +kernel
theorem d_Mo_tell_49 : decode c_Mo_tell 49 = .ok (.aload_n 0, 1) := by decide +kernel
theorem d_Mo_tell_50 : decode c_Mo_tell 50 = .ok (.getfield 20, 3) := by decide +kernel
theorem d_Mo_tell_53 : decode c_Mo_tell 53 = .ok (.bipush 7, 2) := by decide +kernel
theorem d_Mo_tell_55 : decode c_Mo_tell 55 = .ok (.iload_n 1, 1) := by decide +kernel
theorem d_Mo_tell_56 : decode c_Mo_tell 56 = .ok (.imul, 1) := by decide +kernel
theorem d_Mo_tell_57 : decode c_Mo_tell 57 = .ok (.iload_n 2, 1) := by decide +kernel
theorem d_Mo_tell_58 : decode c_Mo_tell 58 = .ok (.iadd, 1) := by decide +kernel
theorem d_Mo_tell_59 : decode c_Mo_tell 59 = .ok (.iload_n 3, 1) := by decide +kernel
theorem d_Mo_tell_60 : decode c_Mo_tell 60 = .ok (.iastore, 1) := by decide +kernel
theorem d_Mo_tell_61 : decode c_Mo_tell 61 = .ok (.iload 4, 2) := by decide +kernel
theorem d_Mo_tell_63 : decode c_Mo_tell 63 = .ok (.ireturn, 1) := by decide +kernel
set_option maxRecDepth 20000 in
theorem w_Mo_tell_0 {X : HX} {ad : Nat → Nat} {I : HI} {J : HJ} {N : HN} {r : HI × Int32} {a0 : Nat} {p1 : Int32} {p2 : Int32} {p3 : Int32} (C : Cx X c_Mo_tell RX11 5 (some .int) rm_Mo_tell) (ha0 : gk Tm nM a0 (0, 11))
    (h : Mo_tell_0 N a0 p1 p2 p3 I = some r) : G Tm X ad nM 0 0 I J N (gE X Tm ad nM (r.1, J, N, fun _ => some (.int r.2))) 0 5 [(0, .ref (ad a0)), (1, .int p1), (2, .int p2), (3, .int p3)] [] := by
  refine g_iload_n (pc := 0) C d_Mo_tell_0 rfl 1 rfl ?_
  obtain ⟨r1, hc2, h⟩ := o_bn1 h
  refine g_S (pc := 1) (rest := []) C (k_Mo_isTwo (xl X)  hc2) sm_Mo_isTwo ml_Mo_111 st_Mo_isTwo ⟨rfl, rfl, Nat.le_of_ble_eq_true rfl, Nat.le_of_ble_eq_true rfl⟩ ⟨Nat.zero_le _, Nat.zero_le _⟩ rfl rfl (Nat.le_of_ble_eq_true rfl) d_Mo_tell_1 [.int r1] rfl ?_
  refine g_if_eq (pc := 4) C 33 d_Mo_tell_4 rfl (fun e3 => ?_) (fun e3 => ?_)
  · have h := o_pos e3 h
    refine g_ldc (pc := 33) C kc_Mo_120 d_Mo_tell_33 ?_
    obtain rfl := o_ret h
    exact g_iret (pc := 35) C d_Mo_tell_35
  · have h := o_neg e3 h
    refine g_iload_n (pc := 7) C d_Mo_tell_7 rfl 2 rfl ?_
    refine g_i2l (pc := 8) C d_Mo_tell_8 ?_
    refine g_lconst (pc := 9) C (0 : Int64) d_Mo_tell_9 (by decide) ?_
    refine g_ldc2 (pc := 10) C kc_Mo_114 d_Mo_tell_10 ?_
    obtain ⟨r4, hc5, h⟩ := o_bn1 h
    refine g_S (pc := 13) (rest := []) C (k_Mo_in (xl X)  hc5) sm_Mo_in ml_Mo_83 st_Mo_in ⟨rfl, rfl, Nat.le_of_ble_eq_true rfl, Nat.le_of_ble_eq_true rfl⟩ ⟨Nat.zero_le _, Nat.zero_le _⟩ rfl rfl (Nat.le_of_ble_eq_true rfl) d_Mo_tell_13 [.int r4] rfl ?_
    refine g_if_eq (pc := 16) C 33 d_Mo_tell_16 rfl (fun e6 => ?_) (fun e6 => ?_)
    · have h := o_pos e6 h
      refine g_ldc (pc := 33) C kc_Mo_120 d_Mo_tell_33 ?_
      obtain rfl := o_ret h
      exact g_iret (pc := 35) C d_Mo_tell_35
    · have h := o_neg e6 h
      refine g_iload_n (pc := 19) C d_Mo_tell_19 rfl 3 rfl ?_
      refine g_i2l (pc := 20) C d_Mo_tell_20 ?_
      refine g_ldc2 (pc := 21) C kc_Mo_116 d_Mo_tell_21 ?_
      refine g_ldc2 (pc := 24) C kc_Mo_118 d_Mo_tell_24 ?_
      obtain ⟨r7, hc8, h⟩ := o_bn1 h
      refine g_S (pc := 27) (rest := []) C (k_Mo_in (xl X)  hc8) sm_Mo_in ml_Mo_83 st_Mo_in ⟨rfl, rfl, Nat.le_of_ble_eq_true rfl, Nat.le_of_ble_eq_true rfl⟩ ⟨Nat.zero_le _, Nat.zero_le _⟩ rfl rfl (Nat.le_of_ble_eq_true rfl) d_Mo_tell_27 [.int r7] rfl ?_
      refine g_if_ne (pc := 30) C 36 d_Mo_tell_30 rfl (fun e9 => ?_) (fun e9 => ?_)
      · have h := o_neg e9 h
        refine g_aload_n (pc := 36) C d_Mo_tell_36 rfl 0 rfl ?_
        obtain ⟨b10, hnb10, hb10, h⟩ := o_ra h
        refine g_get (pc := 37) (k := 4) (v := va_rf ((N a0 4).map ad)) C gcX11 inX11 (by decide) fl_Mo_20 ha0 rfl d_Mo_tell_37 ?_
        refine g_top (g_rf hnb10) ?_
        refine g_bipush (pc := 40) C (7 : Int32) d_Mo_tell_40 (by decide) ?_
        refine g_iload_n (pc := 42) C d_Mo_tell_42 rfl 1 rfl ?_
        refine g_imul (pc := 43) C d_Mo_tell_43 ?_
        refine g_iload_n (pc := 44) C d_Mo_tell_44 rfl 2 rfl ?_
        refine g_iadd (pc := 45) C d_Mo_tell_45 ?_
        obtain ⟨hi11, h⟩ := o_gd h
        refine g_iald (pc := 46) C hb10 hi11 d_Mo_tell_46 ?_
        obtain ⟨v12, ev12, h⟩ := o_bd h
        refine g_topi ev12 ?_
        refine g_istore (pc := 47) (lv' := [(4, .int v12), (0, .ref (ad a0)), (1, .int p1), (2, .int p2), (3, .int p3)]) C d_Mo_tell_47 (by decide) rfl ?_
        refine g_aload_n (pc := 49) C d_Mo_tell_49 rfl 1 rfl ?_
        obtain ⟨b13, hnb13, hb13, h⟩ := o_ra h
        refine g_get (pc := 50) (k := 4) (v := va_rf ((N a0 4).map ad)) C gcX11 inX11 (by decide) fl_Mo_20 ha0 rfl d_Mo_tell_50 ?_
        refine g_top (g_rf hnb13) ?_
        refine g_bipush (pc := 53) C (7 : Int32) d_Mo_tell_53 (by decide) ?_
        refine g_iload_n (pc := 55) C d_Mo_tell_55 rfl 2 rfl ?_
        refine g_imul (pc := 56) C d_Mo_tell_56 ?_
        refine g_iload_n (pc := 57) C d_Mo_tell_57 rfl 3 rfl ?_
        refine g_iadd (pc := 58) C d_Mo_tell_58 ?_
        refine g_iload_n (pc := 59) C d_Mo_tell_59 rfl 4 rfl ?_
        obtain ⟨hi14, h⟩ := o_gd h
        refine g_iast (pc := 60) C hb13 hi14 d_Mo_tell_60 ?_
        obtain ⟨I15, eI15, h⟩ := o_bd h
        rw [← eI15]
        refine g_iload (pc := 61) C d_Mo_tell_61 0 rfl ?_
        obtain rfl := o_ret h
        exact g_iret (pc := 63) C d_Mo_tell_63
      · have h := o_pos e9 h
        refine g_ldc (pc := 33) C kc_Mo_120 d_Mo_tell_33 ?_
        obtain rfl := o_ret h
        exact g_iret (pc := 35) C d_Mo_tell_35
set_option maxRecDepth 20000 in
theorem k_Mo_tell (l : Launch) {I : HI} {J : HJ} {N : HN} {a0 : Nat} {p1 : Int32} {p2 : Int32} {p3 : Int32} {r : HI × Int32} (ha0 : gk Tm nM a0 (0, 11)) (h : Mo_tell N a0 p1 p2 p3 I = some r) : gM l y_Mo_tell c_Mo_tell 5 (some .int) rm_Mo_tell Tm nM I J N (fun ad => [.ref (ad a0), .int p1, .int p2, .int p3]) (r.1, J, N, fun _ => some (.int r.2)) :=
  g_meth (lv := fun ad => [(0, .ref (ad a0)), (1, .int p1), (2, .int p2), (3, .int p3)]) (by decide) (fun _ => Nat.le_of_ble_eq_true rfl) (fun _ => rfl) (fun X ad C => g_lv [0, 1, 2, 3] rfl (w_Mo_tell_0 C ha0 h))
theorem d_Mo_told_0 : decode c_Mo_told 0 = .ok (.iload_n 1, 1) := by decide +kernel
theorem d_Mo_told_1 : decode c_Mo_told 1 = .ok (.invokestatic 111, 3) := by decide +kernel
theorem d_Mo_told_4 : decode c_Mo_told 4 = .ok (.ifCond .eq 29, 3) := by decide +kernel
theorem d_Mo_told_7 : decode c_Mo_told 7 = .ok (.iload_n 2, 1) := by decide +kernel
theorem d_Mo_told_8 : decode c_Mo_told 8 = .ok (.i2l, 1) := by decide +kernel
theorem d_Mo_told_9 : decode c_Mo_told 9 = .ok (.lconst 0, 1) := by decide +kernel
theorem d_Mo_told_10 : decode c_Mo_told 10 = .ok (.ldc2_w 114, 3) := by decide +kernel
theorem d_Mo_told_13 : decode c_Mo_told 13 = .ok (.invokestatic 83, 3) := by decide +kernel
theorem d_Mo_told_16 : decode c_Mo_told 16 = .ok (.ifCond .eq 17, 3) := by decide +kernel
theorem d_Mo_told_19 : decode c_Mo_told 19 = .ok (.aload_n 0, 1) := by decide +kernel
theorem d_Mo_told_20 : decode c_Mo_told 20 = .ok (.getfield 20, 3) := by decide +kernel
theorem d_Mo_told_23 : decode c_Mo_told 23 = .ok (.bipush 7, 2) := by decide +kernel
theorem d_Mo_told_25 : decode c_Mo_told 25 = .ok (.iload_n 1, 1) := by decide +kernel
theorem d_Mo_told_26 : decode c_Mo_told 26 = .ok (.imul, 1) := by decide +kernel
theorem d_Mo_told_27 : decode c_Mo_told 27 = .ok (.iload_n 2, 1) := by decide +kernel
theorem d_Mo_told_28 : decode c_Mo_told 28 = .ok (.iadd, 1) := by decide +kernel
theorem d_Mo_told_29 : decode c_Mo_told 29 = .ok (.iaload, 1) := by decide +kernel
theorem d_Mo_told_30 : decode c_Mo_told 30 = .ok (.goto 5, 3) := by decide +kernel
theorem d_Mo_told_33 : decode c_Mo_told 33 = .ok (.ldc 120, 2) := by decide +kernel
theorem d_Mo_told_35 : decode c_Mo_told 35 = .ok (.ireturn, 1) := by decide +kernel
set_option maxRecDepth 20000 in
theorem w_Mo_told_0 {X : HX} {ad : Nat → Nat} {I : HI} {J : HJ} {N : HN} {r : Int32} {a0 : Nat} {p1 : Int32} {p2 : Int32} (C : Cx X c_Mo_told RX11 3 (some .int) rm_Mo_told) (ha0 : gk Tm nM a0 (0, 11))
    (h : Mo_told_0 I N a0 p1 p2 = some r) : G Tm X ad nM 0 0 I J N (gE X Tm ad nM (I, J, N, fun _ => some (.int r))) 0 3 [(0, .ref (ad a0)), (1, .int p1), (2, .int p2)] [] := by
  refine g_iload_n (pc := 0) C d_Mo_told_0 rfl 1 rfl ?_
  obtain ⟨r1, hc2, h⟩ := o_bn1 h
  refine g_S (pc := 1) (rest := []) C (k_Mo_isTwo (xl X)  hc2) sm_Mo_isTwo ml_Mo_111 st_Mo_isTwo ⟨rfl, rfl, Nat.le_of_ble_eq_true rfl, Nat.le_of_ble_eq_true rfl⟩ ⟨Nat.zero_le _, Nat.zero_le _⟩ rfl rfl (Nat.le_of_ble_eq_true rfl) d_Mo_told_1 [.int r1] rfl ?_
  refine g_if_eq (pc := 4) C 33 d_Mo_told_4 rfl (fun e3 => ?_) (fun e3 => ?_)
  · have h := o_pos e3 h
    refine g_ldc (pc := 33) C kc_Mo_120 d_Mo_told_33 ?_
    obtain rfl := o_ret h
    exact g_iret (pc := 35) C d_Mo_told_35
  · have h := o_neg e3 h
    refine g_iload_n (pc := 7) C d_Mo_told_7 rfl 2 rfl ?_
    refine g_i2l (pc := 8) C d_Mo_told_8 ?_
    refine g_lconst (pc := 9) C (0 : Int64) d_Mo_told_9 (by decide) ?_
    refine g_ldc2 (pc := 10) C kc_Mo_114 d_Mo_told_10 ?_
    obtain ⟨r4, hc5, h⟩ := o_bn1 h
    refine g_S (pc := 13) (rest := []) C (k_Mo_in (xl X)  hc5) sm_Mo_in ml_Mo_83 st_Mo_in ⟨rfl, rfl, Nat.le_of_ble_eq_true rfl, Nat.le_of_ble_eq_true rfl⟩ ⟨Nat.zero_le _, Nat.zero_le _⟩ rfl rfl (Nat.le_of_ble_eq_true rfl) d_Mo_told_13 [.int r4] rfl ?_
    refine g_if_eq (pc := 16) C 33 d_Mo_told_16 rfl (fun e6 => ?_) (fun e6 => ?_)
    · have h := o_pos e6 h
      refine g_ldc (pc := 33) C kc_Mo_120 d_Mo_told_33 ?_
      obtain rfl := o_ret h
      exact g_iret (pc := 35) C d_Mo_told_35
    · have h := o_neg e6 h
      refine g_aload_n (pc := 19) C d_Mo_told_19 rfl 0 rfl ?_
      obtain ⟨b7, hnb7, hb7, h⟩ := o_ra h
      refine g_get (pc := 20) (k := 4) (v := va_rf ((N a0 4).map ad)) C gcX11 inX11 (by decide) fl_Mo_20 ha0 rfl d_Mo_told_20 ?_
      refine g_top (g_rf hnb7) ?_
      refine g_bipush (pc := 23) C (7 : Int32) d_Mo_told_23 (by decide) ?_
      refine g_iload_n (pc := 25) C d_Mo_told_25 rfl 1 rfl ?_
      refine g_imul (pc := 26) C d_Mo_told_26 ?_
      refine g_iload_n (pc := 27) C d_Mo_told_27 rfl 2 rfl ?_
      refine g_iadd (pc := 28) C d_Mo_told_28 ?_
      obtain ⟨hi8, h⟩ := o_gd h
      refine g_iald (pc := 29) C hb7 hi8 d_Mo_told_29 ?_
      refine g_goto (pc := 30) C 35 d_Mo_told_30 rfl ?_
      obtain rfl := o_ret h
      exact g_iret (pc := 35) C d_Mo_told_35
set_option maxRecDepth 20000 in
theorem k_Mo_told (l : Launch) {I : HI} {J : HJ} {N : HN} {a0 : Nat} {p1 : Int32} {p2 : Int32} {r : Int32} (ha0 : gk Tm nM a0 (0, 11)) (h : Mo_told I N a0 p1 p2 = some r) : gM l y_Mo_told c_Mo_told 3 (some .int) rm_Mo_told Tm nM I J N (fun ad => [.ref (ad a0), .int p1, .int p2]) (I, J, N, fun _ => some (.int r)) :=
  g_meth (lv := fun ad => [(0, .ref (ad a0)), (1, .int p1), (2, .int p2)]) (by decide) (fun _ => Nat.le_of_ble_eq_true rfl) (fun _ => rfl) (fun X ad C => g_lv [0, 1, 2] rfl (w_Mo_told_0 C ha0 h))
theorem d_Mo_degree_0 : decode c_Mo_degree 0 = .ok (.iconst (-1), 1) := by decide +kernel
theorem d_Mo_degree_1 : decode c_Mo_degree 1 = .ok (.istore_n 2, 1) := by decide +kernel
theorem d_Mo_degree_2 : decode c_Mo_degree 2 = .ok (.iconst 0, 1) := by decide +kernel
theorem d_Mo_degree_3 : decode c_Mo_degree 3 = .ok (.istore_n 3, 1) := by decide +kernel
theorem d_Mo_degree_4 : decode c_Mo_degree 4 = .ok (.iload_n 3, 1) := by decide +kernel
theorem d_Mo_degree_5 : decode c_Mo_degree 5 = .ok (.bipush 7, 2) := by decide +kernel
theorem d_Mo_degree_7 : decode c_Mo_degree 7 = .ok (.if_icmp .ge 29, 3) := by decide +kernel
theorem d_Mo_degree_10 : decode c_Mo_degree 10 = .ok (.aload_n 0, 1) := by decide +kernel
theorem d_Mo_degree_11 : decode c_Mo_degree 11 = .ok (.getfield 20, 3) := by decide +kernel
theorem d_Mo_degree_14 : decode c_Mo_degree 14 = .ok (.bipush 7, 2) := by decide +kernel
theorem d_Mo_degree_16 : decode c_Mo_degree 16 = .ok (.iload_n 1, 1) := by decide +kernel
theorem d_Mo_degree_17 : decode c_Mo_degree 17 = .ok (.imul, 1) := by decide +kernel
theorem d_Mo_degree_18 : decode c_Mo_degree 18 = .ok (.iload_n 3, 1) := by decide +kernel
theorem d_Mo_degree_19 : decode c_Mo_degree 19 = .ok (.iadd, 1) := by decide +kernel
theorem d_Mo_degree_20 : decode c_Mo_degree 20 = .ok (.iaload, 1) := by decide +kernel
theorem d_Mo_degree_21 : decode c_Mo_degree 21 = .ok (.ifCond .eq 7, 3) := by decide +kernel
theorem d_Mo_degree_24 : decode c_Mo_degree 24 = .ok (.iload_n 3, 1) := by decide +kernel
theorem d_Mo_degree_25 : decode c_Mo_degree 25 = .ok (.goto 4, 3) := by decide +kernel
theorem d_Mo_degree_28 : decode c_Mo_degree 28 = .ok (.iload_n 2, 1) := by decide +kernel
theorem d_Mo_degree_29 : decode c_Mo_degree 29 = .ok (.istore_n 2, 1) := by decide +kernel
theorem d_Mo_degree_30 : decode c_Mo_degree 30 = .ok (.iinc 3 1, 3) := by decide +kernel
theorem d_Mo_degree_33 : decode c_Mo_degree 33 = .ok (.goto (-29), 3) := by decide +kernel
theorem d_Mo_degree_36 : decode c_Mo_degree 36 = .ok (.iload_n 2, 1) := by decide +kernel
theorem d_Mo_degree_37 : decode c_Mo_degree 37 = .ok (.ireturn, 1) := by decide +kernel
set_option maxRecDepth 20000 in
theorem w_Mo_degree_29 {X : HX} {ad : Nat → Nat} {I : HI} {J : HJ} {N : HN} {r : Int32} {k4 : Int32 → Int32 → Option (Int32)} {a0 : Nat} {p1 : Int32} {x3 : Int32} {s0 : Int32} (C : Cx X c_Mo_degree RX11 4 (some .int) rm_Mo_degree) (ha0 : gk Tm nM a0 (0, 11))
    (hk4 : ∀ (x2 : Int32) (x3 : Int32), k4 x2 x3 = some r → G Tm X ad nM 0 0 I J N (gE X Tm ad nM (I, J, N, fun _ => some (.int r))) 4 4 [(0, .ref (ad a0)), (1, .int p1), (2, .int x2), (3, .int x3)] [])
    (h : Mo_degree_29 I N a0 p1 k4 x3 s0 = some r) : G Tm X ad nM 0 0 I J N (gE X Tm ad nM (I, J, N, fun _ => some (.int r))) 29 4 [(0, .ref (ad a0)), (1, .int p1), (3, .int x3)] [.int s0] := by
  refine g_istore_n (pc := 29) (lv' := [(2, .int s0), (0, .ref (ad a0)), (1, .int p1), (3, .int x3)]) C d_Mo_degree_29 rfl (by decide) rfl ?_
  refine g_iinc (pc := 30) (q := 3) (lv' := [(3, .int (x3 + 1)), (2, .int s0), (0, .ref (ad a0)), (1, .int p1)]) C d_Mo_degree_30 rfl rfl (by decide) rfl ?_
  refine g_goto (pc := 33) C 4 d_Mo_degree_33 rfl ?_
  refine g_lv [2, 3, 1, 0] rfl ?_
  exact hk4 _ _ h
set_option maxRecDepth 20000 in
theorem w_Mo_degree_4b {X : HX} {ad : Nat → Nat} {I : HI} {J : HJ} {N : HN} {r : Int32} {k4 : Int32 → Int32 → Option (Int32)} {a0 : Nat} {p1 : Int32} {x2 : Int32} {x3 : Int32} (C : Cx X c_Mo_degree RX11 4 (some .int) rm_Mo_degree) (ha0 : gk Tm nM a0 (0, 11))
    (hk4 : ∀ (x2 : Int32) (x3 : Int32), k4 x2 x3 = some r → G Tm X ad nM 0 0 I J N (gE X Tm ad nM (I, J, N, fun _ => some (.int r))) 4 4 [(0, .ref (ad a0)), (1, .int p1), (2, .int x2), (3, .int x3)] [])
    (h : Mo_degree_4b I N a0 p1 k4 x2 x3 = some r) : G Tm X ad nM 0 0 I J N (gE X Tm ad nM (I, J, N, fun _ => some (.int r))) 4 4 [(0, .ref (ad a0)), (1, .int p1), (2, .int x2), (3, .int x3)] [] := by
  refine g_iload_n (pc := 4) C d_Mo_degree_4 rfl 3 rfl ?_
  refine g_bipush (pc := 5) C (7 : Int32) d_Mo_degree_5 (by decide) ?_
  refine g_icmp_ge (pc := 7) C 36 d_Mo_degree_7 rfl (fun e1 => ?_) (fun e1 => ?_)
  · have h := o_pos e1 h
    refine g_iload_n (pc := 36) C d_Mo_degree_36 rfl 2 rfl ?_
    obtain rfl := o_ret h
    exact g_iret (pc := 37) C d_Mo_degree_37
  · have h := o_neg e1 h
    refine g_aload_n (pc := 10) C d_Mo_degree_10 rfl 0 rfl ?_
    obtain ⟨b2, hnb2, hb2, h⟩ := o_ra h
    refine g_get (pc := 11) (k := 4) (v := va_rf ((N a0 4).map ad)) C gcX11 inX11 (by decide) fl_Mo_20 ha0 rfl d_Mo_degree_11 ?_
    refine g_top (g_rf hnb2) ?_
    refine g_bipush (pc := 14) C (7 : Int32) d_Mo_degree_14 (by decide) ?_
    refine g_iload_n (pc := 16) C d_Mo_degree_16 rfl 1 rfl ?_
    refine g_imul (pc := 17) C d_Mo_degree_17 ?_
    refine g_iload_n (pc := 18) C d_Mo_degree_18 rfl 3 rfl ?_
    refine g_iadd (pc := 19) C d_Mo_degree_19 ?_
    obtain ⟨hi3, h⟩ := o_gd h
    refine g_iald (pc := 20) C hb2 hi3 d_Mo_degree_20 ?_
    refine g_if_eq (pc := 21) C 28 d_Mo_degree_21 rfl (fun e4 => ?_) (fun e4 => ?_)
    · have h := o_pos e4 h
      refine g_iload_n (pc := 28) C d_Mo_degree_28 rfl 2 rfl ?_
      refine g_lv [0, 1, 3] rfl ?_
      exact w_Mo_degree_29 C ha0 hk4 h
    · have h := o_neg e4 h
      refine g_iload_n (pc := 24) C d_Mo_degree_24 rfl 3 rfl ?_
      refine g_goto (pc := 25) C 29 d_Mo_degree_25 rfl ?_
      refine g_lv [0, 1, 3] rfl ?_
      exact w_Mo_degree_29 C ha0 hk4 h
set_option maxRecDepth 20000 in
theorem w_Mo_degree_4 {X : HX} {ad : Nat → Nat} {I : HI} {J : HJ} {N : HN} {r : Int32} {a0 : Nat} {p1 : Int32} (C : Cx X c_Mo_degree RX11 4 (some .int) rm_Mo_degree) (ha0 : gk Tm nM a0 (0, 11)) : ∀ (n : Nat) (x2 : Int32) (x3 : Int32), Mo_degree_4 I N a0 p1 n x2 x3 = some r → G Tm X ad nM 0 0 I J N (gE X Tm ad nM (I, J, N, fun _ => some (.int r))) 4 4 [(0, .ref (ad a0)), (1, .int p1), (2, .int x2), (3, .int x3)] [] := by
  intro n
  induction n with
  | zero => intro x2 x3 h; cases h
  | succ n ih => intro x2 x3 h; exact w_Mo_degree_4b C ha0 ih h
set_option maxRecDepth 20000 in
theorem w_Mo_degree_0 {X : HX} {ad : Nat → Nat} {I : HI} {J : HJ} {N : HN} {r : Int32} {a0 : Nat} {p1 : Int32} (C : Cx X c_Mo_degree RX11 4 (some .int) rm_Mo_degree) (ha0 : gk Tm nM a0 (0, 11))
    (h : Mo_degree_0 I N a0 p1 = some r) : G Tm X ad nM 0 0 I J N (gE X Tm ad nM (I, J, N, fun _ => some (.int r))) 0 4 [(0, .ref (ad a0)), (1, .int p1)] [] := by
  refine g_iconst (pc := 0) C (-1 : Int32) d_Mo_degree_0 (by decide) ?_
  refine g_istore_n (pc := 1) (lv' := [(2, .int (-1 : Int32)), (0, .ref (ad a0)), (1, .int p1)]) C d_Mo_degree_1 rfl (by decide) rfl ?_
  refine g_iconst (pc := 2) C (0 : Int32) d_Mo_degree_2 (by decide) ?_
  refine g_istore_n (pc := 3) (lv' := [(3, .int (0 : Int32)), (2, .int (-1 : Int32)), (0, .ref (ad a0)), (1, .int p1)]) C d_Mo_degree_3 rfl (by decide) rfl ?_
  refine g_lv [2, 3, 1, 0] rfl ?_
  exact w_Mo_degree_4 C ha0 _ _ _ h
set_option maxRecDepth 20000 in
theorem k_Mo_degree (l : Launch) {I : HI} {J : HJ} {N : HN} {a0 : Nat} {p1 : Int32} {r : Int32} (ha0 : gk Tm nM a0 (0, 11)) (h : Mo_degree I N a0 p1 = some r) : gM l y_Mo_degree c_Mo_degree 4 (some .int) rm_Mo_degree Tm nM I J N (fun ad => [.ref (ad a0), .int p1]) (I, J, N, fun _ => some (.int r)) :=
  g_meth (lv := fun ad => [(0, .ref (ad a0)), (1, .int p1)]) (by decide) (fun _ => Nat.le_of_ble_eq_true rfl) (fun _ => rfl) (fun X ad C => g_lv [0, 1] rfl (w_Mo_degree_0 C ha0 h))
theorem d_Mo_lowest_0 : decode c_Mo_lowest 0 = .ok (.iconst (-1), 1) := by decide +kernel
theorem d_Mo_lowest_1 : decode c_Mo_lowest 1 = .ok (.istore_n 2, 1) := by decide +kernel
theorem d_Mo_lowest_2 : decode c_Mo_lowest 2 = .ok (.bipush 6, 2) := by decide +kernel
theorem d_Mo_lowest_4 : decode c_Mo_lowest 4 = .ok (.istore_n 3, 1) := by decide +kernel
theorem d_Mo_lowest_5 : decode c_Mo_lowest 5 = .ok (.iload_n 3, 1) := by decide +kernel
theorem d_Mo_lowest_6 : decode c_Mo_lowest 6 = .ok (.ifCond .lt 29, 3) := by decide +kernel
theorem d_Mo_lowest_9 : decode c_Mo_lowest 9 = .ok (.aload_n 0, 1) := by decide +kernel
theorem d_Mo_lowest_10 : decode c_Mo_lowest 10 = .ok (.getfield 20, 3) := by decide +kernel
theorem d_Mo_lowest_13 : decode c_Mo_lowest 13 = .ok (.bipush 7, 2) := by decide +kernel
theorem d_Mo_lowest_15 : decode c_Mo_lowest 15 = .ok (.iload_n 1, 1) := by decide +kernel
theorem d_Mo_lowest_16 : decode c_Mo_lowest 16 = .ok (.imul, 1) := by decide +kernel
theorem d_Mo_lowest_17 : decode c_Mo_lowest 17 = .ok (.iload_n 3, 1) := by decide +kernel
theorem d_Mo_lowest_18 : decode c_Mo_lowest 18 = .ok (.iadd, 1) := by decide +kernel
theorem d_Mo_lowest_19 : decode c_Mo_lowest 19 = .ok (.iaload, 1) := by decide +kernel
theorem d_Mo_lowest_20 : decode c_Mo_lowest 20 = .ok (.ifCond .eq 7, 3) := by decide +kernel
theorem d_Mo_lowest_23 : decode c_Mo_lowest 23 = .ok (.iload_n 3, 1) := by decide +kernel
theorem d_Mo_lowest_24 : decode c_Mo_lowest 24 = .ok (.goto 4, 3) := by decide +kernel
theorem d_Mo_lowest_27 : decode c_Mo_lowest 27 = .ok (.iload_n 2, 1) := by decide +kernel
theorem d_Mo_lowest_28 : decode c_Mo_lowest 28 = .ok (.istore_n 2, 1) := by decide +kernel
theorem d_Mo_lowest_29 : decode c_Mo_lowest 29 = .ok (.iinc 3 (-1), 3) := by decide +kernel
theorem d_Mo_lowest_32 : decode c_Mo_lowest 32 = .ok (.goto (-27), 3) := by decide +kernel
theorem d_Mo_lowest_35 : decode c_Mo_lowest 35 = .ok (.iload_n 2, 1) := by decide +kernel
theorem d_Mo_lowest_36 : decode c_Mo_lowest 36 = .ok (.ireturn, 1) := by decide +kernel
set_option maxRecDepth 20000 in
theorem w_Mo_lowest_28 {X : HX} {ad : Nat → Nat} {I : HI} {J : HJ} {N : HN} {r : Int32} {k5 : Int32 → Int32 → Option (Int32)} {a0 : Nat} {p1 : Int32} {x3 : Int32} {s0 : Int32} (C : Cx X c_Mo_lowest RX11 4 (some .int) rm_Mo_lowest) (ha0 : gk Tm nM a0 (0, 11))
    (hk5 : ∀ (x2 : Int32) (x3 : Int32), k5 x2 x3 = some r → G Tm X ad nM 0 0 I J N (gE X Tm ad nM (I, J, N, fun _ => some (.int r))) 5 4 [(0, .ref (ad a0)), (1, .int p1), (2, .int x2), (3, .int x3)] [])
    (h : Mo_lowest_28 I N a0 p1 k5 x3 s0 = some r) : G Tm X ad nM 0 0 I J N (gE X Tm ad nM (I, J, N, fun _ => some (.int r))) 28 4 [(0, .ref (ad a0)), (1, .int p1), (3, .int x3)] [.int s0] := by
  refine g_istore_n (pc := 28) (lv' := [(2, .int s0), (0, .ref (ad a0)), (1, .int p1), (3, .int x3)]) C d_Mo_lowest_28 rfl (by decide) rfl ?_
  refine g_iinc (pc := 29) (q := 3) (lv' := [(3, .int (x3 + (-1))), (2, .int s0), (0, .ref (ad a0)), (1, .int p1)]) C d_Mo_lowest_29 rfl rfl (by decide) rfl ?_
  refine g_goto (pc := 32) C 5 d_Mo_lowest_32 rfl ?_
  refine g_lv [2, 3, 1, 0] rfl ?_
  exact hk5 _ _ h
set_option maxRecDepth 20000 in
theorem w_Mo_lowest_5b {X : HX} {ad : Nat → Nat} {I : HI} {J : HJ} {N : HN} {r : Int32} {k5 : Int32 → Int32 → Option (Int32)} {a0 : Nat} {p1 : Int32} {x2 : Int32} {x3 : Int32} (C : Cx X c_Mo_lowest RX11 4 (some .int) rm_Mo_lowest) (ha0 : gk Tm nM a0 (0, 11))
    (hk5 : ∀ (x2 : Int32) (x3 : Int32), k5 x2 x3 = some r → G Tm X ad nM 0 0 I J N (gE X Tm ad nM (I, J, N, fun _ => some (.int r))) 5 4 [(0, .ref (ad a0)), (1, .int p1), (2, .int x2), (3, .int x3)] [])
    (h : Mo_lowest_5b I N a0 p1 k5 x2 x3 = some r) : G Tm X ad nM 0 0 I J N (gE X Tm ad nM (I, J, N, fun _ => some (.int r))) 5 4 [(0, .ref (ad a0)), (1, .int p1), (2, .int x2), (3, .int x3)] [] := by
  refine g_iload_n (pc := 5) C d_Mo_lowest_5 rfl 3 rfl ?_
  refine g_if_lt (pc := 6) C 35 d_Mo_lowest_6 rfl (fun e1 => ?_) (fun e1 => ?_)
  · have h := o_pos e1 h
    refine g_iload_n (pc := 35) C d_Mo_lowest_35 rfl 2 rfl ?_
    obtain rfl := o_ret h
    exact g_iret (pc := 36) C d_Mo_lowest_36
  · have h := o_neg e1 h
    refine g_aload_n (pc := 9) C d_Mo_lowest_9 rfl 0 rfl ?_
    obtain ⟨b2, hnb2, hb2, h⟩ := o_ra h
    refine g_get (pc := 10) (k := 4) (v := va_rf ((N a0 4).map ad)) C gcX11 inX11 (by decide) fl_Mo_20 ha0 rfl d_Mo_lowest_10 ?_
    refine g_top (g_rf hnb2) ?_
    refine g_bipush (pc := 13) C (7 : Int32) d_Mo_lowest_13 (by decide) ?_
    refine g_iload_n (pc := 15) C d_Mo_lowest_15 rfl 1 rfl ?_
    refine g_imul (pc := 16) C d_Mo_lowest_16 ?_
    refine g_iload_n (pc := 17) C d_Mo_lowest_17 rfl 3 rfl ?_
    refine g_iadd (pc := 18) C d_Mo_lowest_18 ?_
    obtain ⟨hi3, h⟩ := o_gd h
    refine g_iald (pc := 19) C hb2 hi3 d_Mo_lowest_19 ?_
    refine g_if_eq (pc := 20) C 27 d_Mo_lowest_20 rfl (fun e4 => ?_) (fun e4 => ?_)
    · have h := o_pos e4 h
      refine g_iload_n (pc := 27) C d_Mo_lowest_27 rfl 2 rfl ?_
      refine g_lv [0, 1, 3] rfl ?_
      exact w_Mo_lowest_28 C ha0 hk5 h
    · have h := o_neg e4 h
      refine g_iload_n (pc := 23) C d_Mo_lowest_23 rfl 3 rfl ?_
      refine g_goto (pc := 24) C 28 d_Mo_lowest_24 rfl ?_
      refine g_lv [0, 1, 3] rfl ?_
      exact w_Mo_lowest_28 C ha0 hk5 h
set_option maxRecDepth 20000 in
theorem w_Mo_lowest_5 {X : HX} {ad : Nat → Nat} {I : HI} {J : HJ} {N : HN} {r : Int32} {a0 : Nat} {p1 : Int32} (C : Cx X c_Mo_lowest RX11 4 (some .int) rm_Mo_lowest) (ha0 : gk Tm nM a0 (0, 11)) : ∀ (n : Nat) (x2 : Int32) (x3 : Int32), Mo_lowest_5 I N a0 p1 n x2 x3 = some r → G Tm X ad nM 0 0 I J N (gE X Tm ad nM (I, J, N, fun _ => some (.int r))) 5 4 [(0, .ref (ad a0)), (1, .int p1), (2, .int x2), (3, .int x3)] [] := by
  intro n
  induction n with
  | zero => intro x2 x3 h; cases h
  | succ n ih => intro x2 x3 h; exact w_Mo_lowest_5b C ha0 ih h
set_option maxRecDepth 20000 in
theorem w_Mo_lowest_0 {X : HX} {ad : Nat → Nat} {I : HI} {J : HJ} {N : HN} {r : Int32} {a0 : Nat} {p1 : Int32} (C : Cx X c_Mo_lowest RX11 4 (some .int) rm_Mo_lowest) (ha0 : gk Tm nM a0 (0, 11))
    (h : Mo_lowest_0 I N a0 p1 = some r) : G Tm X ad nM 0 0 I J N (gE X Tm ad nM (I, J, N, fun _ => some (.int r))) 0 4 [(0, .ref (ad a0)), (1, .int p1)] [] := by
  refine g_iconst (pc := 0) C (-1 : Int32) d_Mo_lowest_0 (by decide) ?_
  refine g_istore_n (pc := 1) (lv' := [(2, .int (-1 : Int32)), (0, .ref (ad a0)), (1, .int p1)]) C d_Mo_lowest_1 rfl (by decide) rfl ?_
  refine g_bipush (pc := 2) C (6 : Int32) d_Mo_lowest_2 (by decide) ?_
  refine g_istore_n (pc := 4) (lv' := [(3, .int (6 : Int32)), (2, .int (-1 : Int32)), (0, .ref (ad a0)), (1, .int p1)]) C d_Mo_lowest_4 rfl (by decide) rfl ?_
  refine g_lv [2, 3, 1, 0] rfl ?_
  exact w_Mo_lowest_5 C ha0 _ _ _ h
set_option maxRecDepth 20000 in
theorem k_Mo_lowest (l : Launch) {I : HI} {J : HJ} {N : HN} {a0 : Nat} {p1 : Int32} {r : Int32} (ha0 : gk Tm nM a0 (0, 11)) (h : Mo_lowest I N a0 p1 = some r) : gM l y_Mo_lowest c_Mo_lowest 4 (some .int) rm_Mo_lowest Tm nM I J N (fun ad => [.ref (ad a0), .int p1]) (I, J, N, fun _ => some (.int r)) :=
  g_meth (lv := fun ad => [(0, .ref (ad a0)), (1, .int p1)]) (by decide) (fun _ => Nat.le_of_ble_eq_true rfl) (fun _ => rfl) (fun X ad C => g_lv [0, 1] rfl (w_Mo_lowest_0 C ha0 h))
theorem d_Mo_sort_0 : decode c_Mo_sort 0 = .ok (.iconst 0, 1) := by decide +kernel
theorem d_Mo_sort_1 : decode c_Mo_sort 1 = .ok (.istore_n 2, 1) := by decide +kernel
theorem d_Mo_sort_2 : decode c_Mo_sort 2 = .ok (.iconst 0, 1) := by decide +kernel
theorem d_Mo_sort_3 : decode c_Mo_sort 3 = .ok (.istore_n 3, 1) := by decide +kernel
theorem d_Mo_sort_4 : decode c_Mo_sort 4 = .ok (.iconst 0, 1) := by decide +kernel
theorem d_Mo_sort_5 : decode c_Mo_sort 5 = .ok (.istore 4, 2) := by decide +kernel
theorem d_Mo_sort_7 : decode c_Mo_sort 7 = .ok (.iload 4, 2) := by decide +kernel
theorem d_Mo_sort_9 : decode c_Mo_sort 9 = .ok (.bipush 7, 2) := by decide +kernel
theorem d_Mo_sort_11 : decode c_Mo_sort 11 = .ok (.if_icmp .ge 74, 3) := by decide +kernel
theorem d_Mo_sort_14 : decode c_Mo_sort 14 = .ok (.iload_n 2, 1) := by decide +kernel
theorem d_Mo_sort_15 : decode c_Mo_sort 15 = .ok (.ifCond .ne 25, 3) := by decide +kernel
theorem d_Mo_sort_18 : decode c_Mo_sort 18 = .ok (.aload_n 0, 1) := by decide +kernel
theorem d_Mo_sort_19 : decode c_Mo_sort 19 = .ok (.getfield 20, 3) := by decide +kernel
theorem d_Mo_sort_22 : decode c_Mo_sort 22 = .ok (.bipush 7, 2) := by decide +kernel
theorem d_Mo_sort_24 : decode c_Mo_sort 24 = .ok (.iload_n 1, 1) := by decide +kernel
theorem d_Mo_sort_25 : decode c_Mo_sort 25 = .ok (.imul, 1) := by decide +kernel
theorem d_Mo_sort_26 : decode c_Mo_sort 26 = .ok (.iload 4, 2) := by decide +kernel
theorem d_Mo_sort_28 : decode c_Mo_sort 28 = .ok (.iadd, 1) := by decide +kernel
theorem d_Mo_sort_29 : decode c_Mo_sort 29 = .ok (.iaload, 1) := by decide +kernel
theorem d_Mo_sort_30 : decode c_Mo_sort 30 = .ok (.ifCond .eq 14, 3) := by decide +kernel
theorem d_Mo_sort_33 : decode c_Mo_sort 33 = .ok (.iload 4, 2) := by decide +kernel
theorem d_Mo_sort_35 : decode c_Mo_sort 35 = .ok (.iconst 2, 1) := by decide +kernel
theorem d_Mo_sort_36 : decode c_Mo_sort 36 = .ok (.irem, 1) := by decide +kernel
theorem d_Mo_sort_37 : decode c_Mo_sort 37 = .ok (.ifCond .ne 7, 3) := by decide +kernel
theorem d_Mo_sort_40 : decode c_Mo_sort 40 = .ok (.iconst 1, 1) := by decide +kernel
theorem d_Mo_sort_41 : decode c_Mo_sort 41 = .ok (.goto 4, 3) := by decide +kernel
theorem d_Mo_sort_44 : decode c_Mo_sort 44 = .ok (.iconst 0, 1) := by decide +kernel
theorem d_Mo_sort_45 : decode c_Mo_sort 45 = .ok (.istore_n 2, 1) := by decide +kernel
theorem d_Mo_sort_46 : decode c_Mo_sort 46 = .ok (.iload_n 3, 1) := by decide +kernel
theorem d_Mo_sort_47 : decode c_Mo_sort 47 = .ok (.ifCond .ne 26, 3) := by decide +kernel
theorem d_Mo_sort_50 : decode c_Mo_sort 50 = .ok (.aload_n 0, 1) := by decide +kernel
theorem d_Mo_sort_51 : decode c_Mo_sort 51 = .ok (.getfield 20, 3) := by decide +kernel
theorem d_Mo_sort_54 : decode c_Mo_sort 54 = .ok (.bipush 7, 2) := by decide +kernel
theorem d_Mo_sort_56 : decode c_Mo_sort 56 = .ok (.iload_n 1, 1) := by decide +kernel
theorem d_Mo_sort_57 : decode c_Mo_sort 57 = .ok (.imul, 1) := by decide +kernel
theorem d_Mo_sort_58 : decode c_Mo_sort 58 = .ok (.iload 4, 2) := by decide +kernel
theorem d_Mo_sort_60 : decode c_Mo_sort 60 = .ok (.iadd, 1) := by decide +kernel
theorem d_Mo_sort_61 : decode c_Mo_sort 61 = .ok (.iaload, 1) := by decide +kernel
theorem d_Mo_sort_62 : decode c_Mo_sort 62 = .ok (.ifCond .eq 15, 3) := by decide +kernel
theorem d_Mo_sort_65 : decode c_Mo_sort 65 = .ok (.iload 4, 2) := by decide +kernel
theorem d_Mo_sort_67 : decode c_Mo_sort 67 = .ok (.iconst 2, 1) := by decide +kernel
theorem d_Mo_sort_68 : decode c_Mo_sort 68 = .ok (.irem, 1) := by decide +kernel
theorem d_Mo_sort_69 : decode c_Mo_sort 69 = .ok (.iconst 1, 1) := by decide +kernel
theorem d_Mo_sort_70 : decode c_Mo_sort 70 = .ok (.if_icmp .ne 7, 3) := by decide +kernel
theorem d_Mo_sort_73 : decode c_Mo_sort 73 = .ok (.iconst 1, 1) := by decide +kernel
theorem d_Mo_sort_74 : decode c_Mo_sort 74 = .ok (.goto 4, 3) := by decide +kernel
theorem d_Mo_sort_77 : decode c_Mo_sort 77 = .ok (.iconst 0, 1) := by decide +kernel
theorem d_Mo_sort_78 : decode c_Mo_sort 78 = .ok (.istore_n 3, 1) := by decide +kernel
theorem d_Mo_sort_79 : decode c_Mo_sort 79 = .ok (.iinc 4 1, 3) := by decide +kernel
theorem d_Mo_sort_82 : decode c_Mo_sort 82 = .ok (.goto (-75), 3) := by decide +kernel
theorem d_Mo_sort_85 : decode c_Mo_sort 85 = .ok (.iload_n 2, 1) := by decide +kernel
theorem d_Mo_sort_86 : decode c_Mo_sort 86 = .ok (.iload_n 3, 1) := by decide +kernel
theorem d_Mo_sort_87 : decode c_Mo_sort 87 = .ok (.if_icmp .ne 7, 3) := by decide +kernel
theorem d_Mo_sort_90 : decode c_Mo_sort 90 = .ok (.iconst 2, 1) := by decide +kernel
theorem d_Mo_sort_91 : decode c_Mo_sort 91 = .ok (.goto 12, 3) := by decide +kernel
theorem d_Mo_sort_94 : decode c_Mo_sort 94 = .ok (.iload_n 2, 1) := by decide +kernel
theorem d_Mo_sort_95 : decode c_Mo_sort 95 = .ok (.ifCond .eq 7, 3) := by decide +kernel
theorem d_Mo_sort_98 : decode c_Mo_sort 98 = .ok (.iconst 0, 1) := by decide +kernel
theorem d_Mo_sort_99 : decode c_Mo_sort 99 = .ok (.goto 4, 3) := by decide +kernel
theorem d_Mo_sort_102 : decode c_Mo_sort 102 = .ok (.iconst 1, 1) := by decide +kernel
theorem d_Mo_sort_103 : decode c_Mo_sort 103 = .ok (.ireturn, 1) := by decide +kernel
set_option maxRecDepth 20000 in
theorem w_Mo_sort_78 {X : HX} {ad : Nat → Nat} {I : HI} {J : HJ} {N : HN} {r : Int32} {k7 : Int32 → Int32 → Int32 → Option (Int32)} {a0 : Nat} {p1 : Int32} {x2 : Int32} {x4 : Int32} {s0 : Int32} (C : Cx X c_Mo_sort RX11 5 (some .int) rm_Mo_sort) (ha0 : gk Tm nM a0 (0, 11))
    (hk7 : ∀ (x2 : Int32) (x3 : Int32) (x4 : Int32), k7 x2 x3 x4 = some r → G Tm X ad nM 0 0 I J N (gE X Tm ad nM (I, J, N, fun _ => some (.int r))) 7 5 [(0, .ref (ad a0)), (1, .int p1), (2, .int x2), (3, .int x3), (4, .int x4)] [])
    (h : Mo_sort_78 I N a0 p1 k7 x2 x4 s0 = some r) : G Tm X ad nM 0 0 I J N (gE X Tm ad nM (I, J, N, fun _ => some (.int r))) 78 5 [(0, .ref (ad a0)), (1, .int p1), (2, .int x2), (4, .int x4)] [.int s0] := by
  refine g_istore_n (pc := 78) (lv' := [(3, .int s0), (0, .ref (ad a0)), (1, .int p1), (2, .int x2), (4, .int x4)]) C d_Mo_sort_78 rfl (by decide) rfl ?_
  refine g_iinc (pc := 79) (q := 4) (lv' := [(4, .int (x4 + 1)), (3, .int s0), (0, .ref (ad a0)), (1, .int p1), (2, .int x2)]) C d_Mo_sort_79 rfl rfl (by decide) rfl ?_
  refine g_goto (pc := 82) C 7 d_Mo_sort_82 rfl ?_
  refine g_lv [2, 3, 4, 1, 0] rfl ?_
  exact hk7 _ _ _ h
set_option maxRecDepth 20000 in
theorem w_Mo_sort_77 {X : HX} {ad : Nat → Nat} {I : HI} {J : HJ} {N : HN} {r : Int32} {k7 : Int32 → Int32 → Int32 → Option (Int32)} {a0 : Nat} {p1 : Int32} {x2 : Int32} {x4 : Int32} (C : Cx X c_Mo_sort RX11 5 (some .int) rm_Mo_sort) (ha0 : gk Tm nM a0 (0, 11))
    (hk7 : ∀ (x2 : Int32) (x3 : Int32) (x4 : Int32), k7 x2 x3 x4 = some r → G Tm X ad nM 0 0 I J N (gE X Tm ad nM (I, J, N, fun _ => some (.int r))) 7 5 [(0, .ref (ad a0)), (1, .int p1), (2, .int x2), (3, .int x3), (4, .int x4)] [])
    (h : Mo_sort_77 I N a0 p1 k7 x2 x4 = some r) : G Tm X ad nM 0 0 I J N (gE X Tm ad nM (I, J, N, fun _ => some (.int r))) 77 5 [(0, .ref (ad a0)), (1, .int p1), (2, .int x2), (4, .int x4)] [] := by
  refine g_iconst (pc := 77) C (0 : Int32) d_Mo_sort_77 (by decide) ?_
  refine g_lv [0, 1, 2, 3] rfl ?_
  exact w_Mo_sort_78 C ha0 hk7 h
set_option maxRecDepth 20000 in
theorem w_Mo_sort_73 {X : HX} {ad : Nat → Nat} {I : HI} {J : HJ} {N : HN} {r : Int32} {k7 : Int32 → Int32 → Int32 → Option (Int32)} {a0 : Nat} {p1 : Int32} {x2 : Int32} {x4 : Int32} (C : Cx X c_Mo_sort RX11 5 (some .int) rm_Mo_sort) (ha0 : gk Tm nM a0 (0, 11))
    (hk7 : ∀ (x2 : Int32) (x3 : Int32) (x4 : Int32), k7 x2 x3 x4 = some r → G Tm X ad nM 0 0 I J N (gE X Tm ad nM (I, J, N, fun _ => some (.int r))) 7 5 [(0, .ref (ad a0)), (1, .int p1), (2, .int x2), (3, .int x3), (4, .int x4)] [])
    (h : Mo_sort_73 I N a0 p1 k7 x2 x4 = some r) : G Tm X ad nM 0 0 I J N (gE X Tm ad nM (I, J, N, fun _ => some (.int r))) 73 5 [(0, .ref (ad a0)), (1, .int p1), (2, .int x2), (4, .int x4)] [] := by
  refine g_iconst (pc := 73) C (1 : Int32) d_Mo_sort_73 (by decide) ?_
  refine g_goto (pc := 74) C 78 d_Mo_sort_74 rfl ?_
  refine g_lv [0, 1, 2, 3] rfl ?_
  exact w_Mo_sort_78 C ha0 hk7 h
set_option maxRecDepth 20000 in
theorem w_Mo_sort_45 {X : HX} {ad : Nat → Nat} {I : HI} {J : HJ} {N : HN} {r : Int32} {k7 : Int32 → Int32 → Int32 → Option (Int32)} {a0 : Nat} {p1 : Int32} {x3 : Int32} {x4 : Int32} {s0 : Int32} (C : Cx X c_Mo_sort RX11 5 (some .int) rm_Mo_sort) (ha0 : gk Tm nM a0 (0, 11))
    (hk7 : ∀ (x2 : Int32) (x3 : Int32) (x4 : Int32), k7 x2 x3 x4 = some r → G Tm X ad nM 0 0 I J N (gE X Tm ad nM (I, J, N, fun _ => some (.int r))) 7 5 [(0, .ref (ad a0)), (1, .int p1), (2, .int x2), (3, .int x3), (4, .int x4)] [])
    (h : Mo_sort_45 I N a0 p1 k7 x3 x4 s0 = some r) : G Tm X ad nM 0 0 I J N (gE X Tm ad nM (I, J, N, fun _ => some (.int r))) 45 5 [(0, .ref (ad a0)), (1, .int p1), (3, .int x3), (4, .int x4)] [.int s0] := by
  refine g_istore_n (pc := 45) (lv' := [(2, .int s0), (0, .ref (ad a0)), (1, .int p1), (3, .int x3), (4, .int x4)]) C d_Mo_sort_45 rfl (by decide) rfl ?_
  refine g_iload_n (pc := 46) C d_Mo_sort_46 rfl 3 rfl ?_
  refine g_if_ne (pc := 47) C 73 d_Mo_sort_47 rfl (fun e1 => ?_) (fun e1 => ?_)
  · have h := o_neg e1 h
    refine g_lv [1, 2, 0, 4] rfl ?_
    exact w_Mo_sort_73 C ha0 hk7 h
  · have h := o_pos e1 h
    refine g_aload_n (pc := 50) C d_Mo_sort_50 rfl 1 rfl ?_
    obtain ⟨b2, hnb2, hb2, h⟩ := o_ra h
    refine g_get (pc := 51) (k := 4) (v := va_rf ((N a0 4).map ad)) C gcX11 inX11 (by decide) fl_Mo_20 ha0 rfl d_Mo_sort_51 ?_
    refine g_top (g_rf hnb2) ?_
    refine g_bipush (pc := 54) C (7 : Int32) d_Mo_sort_54 (by decide) ?_
    refine g_iload_n (pc := 56) C d_Mo_sort_56 rfl 2 rfl ?_
    refine g_imul (pc := 57) C d_Mo_sort_57 ?_
    refine g_iload (pc := 58) C d_Mo_sort_58 4 rfl ?_
    refine g_iadd (pc := 60) C d_Mo_sort_60 ?_
    obtain ⟨hi3, h⟩ := o_gd h
    refine g_iald (pc := 61) C hb2 hi3 d_Mo_sort_61 ?_
    refine g_if_eq (pc := 62) C 77 d_Mo_sort_62 rfl (fun e4 => ?_) (fun e4 => ?_)
    · have h := o_pos e4 h
      refine g_lv [1, 2, 0, 4] rfl ?_
      exact w_Mo_sort_77 C ha0 hk7 h
    · have h := o_neg e4 h
      refine g_iload (pc := 65) C d_Mo_sort_65 4 rfl ?_
      refine g_iconst (pc := 67) C (2 : Int32) d_Mo_sort_67 (by decide) ?_
      refine g_irem (pc := 68) C d_Mo_sort_68 (by decide) ?_
      refine g_iconst (pc := 69) C (1 : Int32) d_Mo_sort_69 (by decide) ?_
      refine g_icmp_ne (pc := 70) C 77 d_Mo_sort_70 rfl (fun e5 => ?_) (fun e5 => ?_)
      · have h := o_neg e5 h
        refine g_lv [1, 2, 0, 4] rfl ?_
        exact w_Mo_sort_77 C ha0 hk7 h
      · have h := o_pos e5 h
        refine g_lv [1, 2, 0, 4] rfl ?_
        exact w_Mo_sort_73 C ha0 hk7 h
set_option maxRecDepth 20000 in
theorem w_Mo_sort_44 {X : HX} {ad : Nat → Nat} {I : HI} {J : HJ} {N : HN} {r : Int32} {k7 : Int32 → Int32 → Int32 → Option (Int32)} {a0 : Nat} {p1 : Int32} {x3 : Int32} {x4 : Int32} (C : Cx X c_Mo_sort RX11 5 (some .int) rm_Mo_sort) (ha0 : gk Tm nM a0 (0, 11))
    (hk7 : ∀ (x2 : Int32) (x3 : Int32) (x4 : Int32), k7 x2 x3 x4 = some r → G Tm X ad nM 0 0 I J N (gE X Tm ad nM (I, J, N, fun _ => some (.int r))) 7 5 [(0, .ref (ad a0)), (1, .int p1), (2, .int x2), (3, .int x3), (4, .int x4)] [])
    (h : Mo_sort_44 I N a0 p1 k7 x3 x4 = some r) : G Tm X ad nM 0 0 I J N (gE X Tm ad nM (I, J, N, fun _ => some (.int r))) 44 5 [(0, .ref (ad a0)), (1, .int p1), (3, .int x3), (4, .int x4)] [] := by
  refine g_iconst (pc := 44) C (0 : Int32) d_Mo_sort_44 (by decide) ?_
  refine g_lv [0, 1, 2, 3] rfl ?_
  exact w_Mo_sort_45 C ha0 hk7 h
set_option maxRecDepth 20000 in
theorem w_Mo_sort_40 {X : HX} {ad : Nat → Nat} {I : HI} {J : HJ} {N : HN} {r : Int32} {k7 : Int32 → Int32 → Int32 → Option (Int32)} {a0 : Nat} {p1 : Int32} {x3 : Int32} {x4 : Int32} (C : Cx X c_Mo_sort RX11 5 (some .int) rm_Mo_sort) (ha0 : gk Tm nM a0 (0, 11))
    (hk7 : ∀ (x2 : Int32) (x3 : Int32) (x4 : Int32), k7 x2 x3 x4 = some r → G Tm X ad nM 0 0 I J N (gE X Tm ad nM (I, J, N, fun _ => some (.int r))) 7 5 [(0, .ref (ad a0)), (1, .int p1), (2, .int x2), (3, .int x3), (4, .int x4)] [])
    (h : Mo_sort_40 I N a0 p1 k7 x3 x4 = some r) : G Tm X ad nM 0 0 I J N (gE X Tm ad nM (I, J, N, fun _ => some (.int r))) 40 5 [(0, .ref (ad a0)), (1, .int p1), (3, .int x3), (4, .int x4)] [] := by
  refine g_iconst (pc := 40) C (1 : Int32) d_Mo_sort_40 (by decide) ?_
  refine g_goto (pc := 41) C 45 d_Mo_sort_41 rfl ?_
  refine g_lv [0, 1, 2, 3] rfl ?_
  exact w_Mo_sort_45 C ha0 hk7 h
set_option maxRecDepth 20000 in
theorem w_Mo_sort_7b {X : HX} {ad : Nat → Nat} {I : HI} {J : HJ} {N : HN} {r : Int32} {k7 : Int32 → Int32 → Int32 → Option (Int32)} {a0 : Nat} {p1 : Int32} {x2 : Int32} {x3 : Int32} {x4 : Int32} (C : Cx X c_Mo_sort RX11 5 (some .int) rm_Mo_sort) (ha0 : gk Tm nM a0 (0, 11))
    (hk7 : ∀ (x2 : Int32) (x3 : Int32) (x4 : Int32), k7 x2 x3 x4 = some r → G Tm X ad nM 0 0 I J N (gE X Tm ad nM (I, J, N, fun _ => some (.int r))) 7 5 [(0, .ref (ad a0)), (1, .int p1), (2, .int x2), (3, .int x3), (4, .int x4)] [])
    (h : Mo_sort_7b I N a0 p1 k7 x2 x3 x4 = some r) : G Tm X ad nM 0 0 I J N (gE X Tm ad nM (I, J, N, fun _ => some (.int r))) 7 5 [(0, .ref (ad a0)), (1, .int p1), (2, .int x2), (3, .int x3), (4, .int x4)] [] := by
  refine g_iload (pc := 7) C d_Mo_sort_7 4 rfl ?_
  refine g_bipush (pc := 9) C (7 : Int32) d_Mo_sort_9 (by decide) ?_
  refine g_icmp_ge (pc := 11) C 85 d_Mo_sort_11 rfl (fun e1 => ?_) (fun e1 => ?_)
  · have h := o_pos e1 h
    refine g_iload_n (pc := 85) C d_Mo_sort_85 rfl 2 rfl ?_
    refine g_iload_n (pc := 86) C d_Mo_sort_86 rfl 3 rfl ?_
    refine g_icmp_ne (pc := 87) C 94 d_Mo_sort_87 rfl (fun e2 => ?_) (fun e2 => ?_)
    · have h := o_neg e2 h
      refine g_iload_n (pc := 94) C d_Mo_sort_94 rfl 2 rfl ?_
      refine g_if_eq (pc := 95) C 102 d_Mo_sort_95 rfl (fun e3 => ?_) (fun e3 => ?_)
      · have h := o_pos e3 h
        refine g_iconst (pc := 102) C (1 : Int32) d_Mo_sort_102 (by decide) ?_
        obtain rfl := o_ret h
        exact g_iret (pc := 103) C d_Mo_sort_103
      · have h := o_neg e3 h
        refine g_iconst (pc := 98) C (0 : Int32) d_Mo_sort_98 (by decide) ?_
        refine g_goto (pc := 99) C 103 d_Mo_sort_99 rfl ?_
        obtain rfl := o_ret h
        exact g_iret (pc := 103) C d_Mo_sort_103
    · have h := o_pos e2 h
      refine g_iconst (pc := 90) C (2 : Int32) d_Mo_sort_90 (by decide) ?_
      refine g_goto (pc := 91) C 103 d_Mo_sort_91 rfl ?_
      obtain rfl := o_ret h
      exact g_iret (pc := 103) C d_Mo_sort_103
  · have h := o_neg e1 h
    refine g_iload_n (pc := 14) C d_Mo_sort_14 rfl 2 rfl ?_
    refine g_if_ne (pc := 15) C 40 d_Mo_sort_15 rfl (fun e4 => ?_) (fun e4 => ?_)
    · have h := o_neg e4 h
      refine g_lv [0, 1, 3, 4] rfl ?_
      exact w_Mo_sort_40 C ha0 hk7 h
    · have h := o_pos e4 h
      refine g_aload_n (pc := 18) C d_Mo_sort_18 rfl 0 rfl ?_
      obtain ⟨b5, hnb5, hb5, h⟩ := o_ra h
      refine g_get (pc := 19) (k := 4) (v := va_rf ((N a0 4).map ad)) C gcX11 inX11 (by decide) fl_Mo_20 ha0 rfl d_Mo_sort_19 ?_
      refine g_top (g_rf hnb5) ?_
      refine g_bipush (pc := 22) C (7 : Int32) d_Mo_sort_22 (by decide) ?_
      refine g_iload_n (pc := 24) C d_Mo_sort_24 rfl 1 rfl ?_
      refine g_imul (pc := 25) C d_Mo_sort_25 ?_
      refine g_iload (pc := 26) C d_Mo_sort_26 4 rfl ?_
      refine g_iadd (pc := 28) C d_Mo_sort_28 ?_
      obtain ⟨hi6, h⟩ := o_gd h
      refine g_iald (pc := 29) C hb5 hi6 d_Mo_sort_29 ?_
      refine g_if_eq (pc := 30) C 44 d_Mo_sort_30 rfl (fun e7 => ?_) (fun e7 => ?_)
      · have h := o_pos e7 h
        refine g_lv [0, 1, 3, 4] rfl ?_
        exact w_Mo_sort_44 C ha0 hk7 h
      · have h := o_neg e7 h
        refine g_iload (pc := 33) C d_Mo_sort_33 4 rfl ?_
        refine g_iconst (pc := 35) C (2 : Int32) d_Mo_sort_35 (by decide) ?_
        refine g_irem (pc := 36) C d_Mo_sort_36 (by decide) ?_
        refine g_if_ne (pc := 37) C 44 d_Mo_sort_37 rfl (fun e8 => ?_) (fun e8 => ?_)
        · have h := o_neg e8 h
          refine g_lv [0, 1, 3, 4] rfl ?_
          exact w_Mo_sort_44 C ha0 hk7 h
        · have h := o_pos e8 h
          refine g_lv [0, 1, 3, 4] rfl ?_
          exact w_Mo_sort_40 C ha0 hk7 h
set_option maxRecDepth 20000 in
theorem w_Mo_sort_7 {X : HX} {ad : Nat → Nat} {I : HI} {J : HJ} {N : HN} {r : Int32} {a0 : Nat} {p1 : Int32} (C : Cx X c_Mo_sort RX11 5 (some .int) rm_Mo_sort) (ha0 : gk Tm nM a0 (0, 11)) : ∀ (n : Nat) (x2 : Int32) (x3 : Int32) (x4 : Int32), Mo_sort_7 I N a0 p1 n x2 x3 x4 = some r → G Tm X ad nM 0 0 I J N (gE X Tm ad nM (I, J, N, fun _ => some (.int r))) 7 5 [(0, .ref (ad a0)), (1, .int p1), (2, .int x2), (3, .int x3), (4, .int x4)] [] := by
  intro n
  induction n with
  | zero => intro x2 x3 x4 h; cases h
  | succ n ih => intro x2 x3 x4 h; exact w_Mo_sort_7b C ha0 ih h
set_option maxRecDepth 20000 in
theorem w_Mo_sort_0 {X : HX} {ad : Nat → Nat} {I : HI} {J : HJ} {N : HN} {r : Int32} {a0 : Nat} {p1 : Int32} (C : Cx X c_Mo_sort RX11 5 (some .int) rm_Mo_sort) (ha0 : gk Tm nM a0 (0, 11))
    (h : Mo_sort_0 I N a0 p1 = some r) : G Tm X ad nM 0 0 I J N (gE X Tm ad nM (I, J, N, fun _ => some (.int r))) 0 5 [(0, .ref (ad a0)), (1, .int p1)] [] := by
  refine g_iconst (pc := 0) C (0 : Int32) d_Mo_sort_0 (by decide) ?_
  refine g_istore_n (pc := 1) (lv' := [(2, .int (0 : Int32)), (0, .ref (ad a0)), (1, .int p1)]) C d_Mo_sort_1 rfl (by decide) rfl ?_
  refine g_iconst (pc := 2) C (0 : Int32) d_Mo_sort_2 (by decide) ?_
  refine g_istore_n (pc := 3) (lv' := [(3, .int (0 : Int32)), (2, .int (0 : Int32)), (0, .ref (ad a0)), (1, .int p1)]) C d_Mo_sort_3 rfl (by decide) rfl ?_
  refine g_iconst (pc := 4) C (0 : Int32) d_Mo_sort_4 (by decide) ?_
  refine g_istore (pc := 5) (lv' := [(4, .int (0 : Int32)), (3, .int (0 : Int32)), (2, .int (0 : Int32)), (0, .ref (ad a0)), (1, .int p1)]) C d_Mo_sort_5 (by decide) rfl ?_
  refine g_lv [3, 4, 2, 1, 0] rfl ?_
  exact w_Mo_sort_7 C ha0 _ _ _ _ h
set_option maxRecDepth 20000 in
theorem k_Mo_sort (l : Launch) {I : HI} {J : HJ} {N : HN} {a0 : Nat} {p1 : Int32} {r : Int32} (ha0 : gk Tm nM a0 (0, 11)) (h : Mo_sort I N a0 p1 = some r) : gM l y_Mo_sort c_Mo_sort 5 (some .int) rm_Mo_sort Tm nM I J N (fun ad => [.ref (ad a0), .int p1]) (I, J, N, fun _ => some (.int r)) :=
  g_meth (lv := fun ad => [(0, .ref (ad a0)), (1, .int p1)]) (by decide) (fun _ => Nat.le_of_ble_eq_true rfl) (fun _ => rfl) (fun X ad C => g_lv [0, 1] rfl (w_Mo_sort_0 C ha0 h))
theorem d_Mo_isLawful_0 : decode c_Mo_isLawful 0 = .ok (.aload_n 0, 1) := by decide +kernel
theorem d_Mo_isLawful_1 : decode c_Mo_isLawful 1 = .ok (.iconst 0, 1) := by decide +kernel
theorem d_Mo_isLawful_2 : decode c_Mo_isLawful 2 = .ok (.invokevirtual 121, 3) := by decide +kernel
theorem d_Mo_isLawful_5 : decode c_Mo_isLawful 5 = .ok (.aload_n 0, 1) := by decide +kernel
theorem d_Mo_isLawful_6 : decode c_Mo_isLawful 6 = .ok (.iconst 1, 1) := by decide +kernel
theorem d_Mo_isLawful_7 : decode c_Mo_isLawful 7 = .ok (.invokevirtual 121, 3) := by decide +kernel
theorem d_Mo_isLawful_10 : decode c_Mo_isLawful 10 = .ok (.iadd, 1) := by decide +kernel
theorem d_Mo_isLawful_11 : decode c_Mo_isLawful 11 = .ok (.iconst 1, 1) := by decide +kernel
theorem d_Mo_isLawful_12 : decode c_Mo_isLawful 12 = .ok (.if_icmp .ne 7, 3) := by decide +kernel
theorem d_Mo_isLawful_15 : decode c_Mo_isLawful 15 = .ok (.iconst 1, 1) := by decide +kernel
theorem d_Mo_isLawful_16 : decode c_Mo_isLawful 16 = .ok (.goto 4, 3) := by decide +kernel
theorem d_Mo_isLawful_19 : decode c_Mo_isLawful 19 = .ok (.iconst 0, 1) := by decide +kernel
theorem d_Mo_isLawful_20 : decode c_Mo_isLawful 20 = .ok (.ireturn, 1) := by decide +kernel
set_option maxRecDepth 20000 in
theorem w_Mo_isLawful_0 {X : HX} {ad : Nat → Nat} {I : HI} {J : HJ} {N : HN} {r : Int32} {a0 : Nat} (C : Cx X c_Mo_isLawful RX11 1 (some .boolean) rm_Mo_isLawful) (ha0 : gk Tm nM a0 (0, 11))
    (h : Mo_isLawful_0 I N a0 = some r) : G Tm X ad nM 0 0 I J N (gE X Tm ad nM (I, J, N, fun _ => some (.int r))) 0 1 [(0, .ref (ad a0))] [] := by
  refine g_aload_n (pc := 0) C d_Mo_isLawful_0 rfl 0 rfl ?_
  refine g_iconst (pc := 1) C (0 : Int32) d_Mo_isLawful_1 (by decide) ?_
  obtain ⟨r1, hc2, h⟩ := o_bn1 h
  refine g_V (pc := 2) (rest := []) C (k_Mo_sort (xl X) ha0 hc2) sm_Mo_sort ml_Mo_121 im_Mo_sort se_Mo_sort gcX11 rfl ha0 ⟨rfl, rfl, Nat.le_of_ble_eq_true rfl, Nat.le_of_ble_eq_true rfl⟩ ⟨Nat.zero_le _, Nat.zero_le _⟩ rfl rfl (Nat.le_of_ble_eq_true rfl) d_Mo_isLawful_2 [.int r1] rfl ?_
  refine g_aload_n (pc := 5) C d_Mo_isLawful_5 rfl 0 rfl ?_
  refine g_iconst (pc := 6) C (1 : Int32) d_Mo_isLawful_6 (by decide) ?_
  obtain ⟨r3, hc4, h⟩ := o_bn1 h
  refine g_V (pc := 7) (rest := [.int r1]) C (k_Mo_sort (xl X) ha0 hc4) sm_Mo_sort ml_Mo_121 im_Mo_sort se_Mo_sort gcX11 rfl ha0 ⟨rfl, rfl, Nat.le_of_ble_eq_true rfl, Nat.le_of_ble_eq_true rfl⟩ ⟨Nat.zero_le _, Nat.zero_le _⟩ rfl rfl (Nat.le_of_ble_eq_true rfl) d_Mo_isLawful_7 [.int r3, .int r1] rfl ?_
  refine g_iadd (pc := 10) C d_Mo_isLawful_10 ?_
  refine g_iconst (pc := 11) C (1 : Int32) d_Mo_isLawful_11 (by decide) ?_
  refine g_icmp_ne (pc := 12) C 19 d_Mo_isLawful_12 rfl (fun e5 => ?_) (fun e5 => ?_)
  · have h := o_neg e5 h
    refine g_iconst (pc := 19) C (0 : Int32) d_Mo_isLawful_19 (by decide) ?_
    obtain rfl := o_ret h
    exact g_zret (pc := 20) C zn_0 d_Mo_isLawful_20
  · have h := o_pos e5 h
    refine g_iconst (pc := 15) C (1 : Int32) d_Mo_isLawful_15 (by decide) ?_
    refine g_goto (pc := 16) C 20 d_Mo_isLawful_16 rfl ?_
    obtain rfl := o_ret h
    exact g_zret (pc := 20) C zn_1 d_Mo_isLawful_20
set_option maxRecDepth 20000 in
theorem k_Mo_isLawful (l : Launch) {I : HI} {J : HJ} {N : HN} {a0 : Nat} {r : Int32} (ha0 : gk Tm nM a0 (0, 11)) (h : Mo_isLawful I N a0 = some r) : gM l y_Mo_isLawful c_Mo_isLawful 1 (some .boolean) rm_Mo_isLawful Tm nM I J N (fun ad => [.ref (ad a0)]) (I, J, N, fun _ => some (.int r)) :=
  g_meth (lv := fun ad => [(0, .ref (ad a0))]) (by decide) (fun _ => Nat.le_of_ble_eq_true rfl) (fun _ => rfl) (fun X ad C => g_lv [0] rfl (w_Mo_isLawful_0 C ha0 h))
theorem d_Mo_turn_0 : decode c_Mo_turn 0 = .ok (.iconst 0, 1) := by decide +kernel
theorem d_Mo_turn_1 : decode c_Mo_turn 1 = .ok (.istore_n 1, 1) := by decide +kernel
theorem d_Mo_turn_2 : decode c_Mo_turn 2 = .ok (.iload_n 1, 1) := by decide +kernel
theorem d_Mo_turn_3 : decode c_Mo_turn 3 = .ok (.bipush 7, 2) := by decide +kernel
theorem d_Mo_turn_5 : decode c_Mo_turn 5 = .ok (.if_icmp .ge 41, 3) := by decide +kernel
theorem d_Mo_turn_8 : decode c_Mo_turn 8 = .ok (.aload_n 0, 1) := by decide +kernel
theorem d_Mo_turn_9 : decode c_Mo_turn 9 = .ok (.getfield 20, 3) := by decide +kernel
theorem d_Mo_turn_12 : decode c_Mo_turn 12 = .ok (.iload_n 1, 1) := by decide +kernel
theorem d_Mo_turn_13 : decode c_Mo_turn 13 = .ok (.iaload, 1) := by decide +kernel
theorem d_Mo_turn_14 : decode c_Mo_turn 14 = .ok (.istore_n 2, 1) := by decide +kernel
theorem d_Mo_turn_15 : decode c_Mo_turn 15 = .ok (.aload_n 0, 1) := by decide +kernel
theorem d_Mo_turn_16 : decode c_Mo_turn 16 = .ok (.getfield 20, 3) := by decide +kernel
theorem d_Mo_turn_19 : decode c_Mo_turn 19 = .ok (.iload_n 1, 1) := by decide +kernel
theorem d_Mo_turn_20 : decode c_Mo_turn 20 = .ok (.aload_n 0, 1) := by decide +kernel
theorem d_Mo_turn_21 : decode c_Mo_turn 21 = .ok (.getfield 20, 3) := by decide +kernel
theorem d_Mo_turn_24 : decode c_Mo_turn 24 = .ok (.bipush 7, 2) := by decide +kernel
theorem d_Mo_turn_26 : decode c_Mo_turn 26 = .ok (.iload_n 1, 1) := by decide +kernel
theorem d_Mo_turn_27 : decode c_Mo_turn 27 = .ok (.iadd, 1) := by decide +kernel
theorem d_Mo_turn_28 : decode c_Mo_turn 28 = .ok (.iaload, 1) := by decide +kernel
theorem d_Mo_turn_29 : decode c_Mo_turn 29 = .ok (.iastore, 1) := by decide +kernel
theorem d_Mo_turn_30 : decode c_Mo_turn 30 = .ok (.aload_n 0, 1) := by decide +kernel
theorem d_Mo_turn_31 : decode c_Mo_turn 31 = .ok (.getfield 20, 3) := by decide +kernel
theorem d_Mo_turn_34 : decode c_Mo_turn 34 = .ok (.bipush 7, 2) := by decide +kernel
theorem d_Mo_turn_36 : decode c_Mo_turn 36 = .ok (.iload_n 1, 1) := by decide +kernel
theorem d_Mo_turn_37 : decode c_Mo_turn 37 = .ok (.iadd, 1) := by decide +kernel
theorem d_Mo_turn_38 : decode c_Mo_turn 38 = .ok (.iload_n 2, 1) := by decide +kernel
theorem d_Mo_turn_39 : decode c_Mo_turn 39 = .ok (.iastore, 1) := by decide +kernel
theorem d_Mo_turn_40 : decode c_Mo_turn 40 = .ok (.iinc 1 1, 3) := by decide +kernel
theorem d_Mo_turn_43 : decode c_Mo_turn 43 = .ok (.goto (-41), 3) := by decide +kernel
theorem d_Mo_turn_46 : decode c_Mo_turn 46 = .ok (.aload_n 0, 1) := by decide +kernel
theorem d_Mo_turn_47 : decode c_Mo_turn 47 = .ok (.invokevirtual 124, 3) := by decide +kernel
theorem d_Mo_turn_50 : decode c_Mo_turn 50 = .ok (.ifCond .eq 7, 3) := by decide +kernel
theorem d_Mo_turn_53 : decode c_Mo_turn 53 = .ok (.iconst 1, 1) := by decide +kernel
theorem d_Mo_turn_54 : decode c_Mo_turn 54 = .ok (.goto 4, 3) := by decide +kernel
theorem d_Mo_turn_57 : decode c_Mo_turn 57 = .ok (.iconst 0, 1) := by decide +kernel
theorem d_Mo_turn_58 : decode c_Mo_turn 58 = .ok (.ireturn, 1) := by decide +kernel
set_option maxRecDepth 20000 in
theorem w_Mo_turn_2b {X : HX} {ad : Nat → Nat} {I : HI} {J : HJ} {N : HN} {r : HI × Int32} {k2 : HI → Int32 → Option (HI × Int32)} {a0 : Nat} {x1 : Int32} (C : Cx X c_Mo_turn RX11 3 (some .int) rm_Mo_turn) (ha0 : gk Tm nM a0 (0, 11))
    (hk2 : ∀ (I : HI) (x1 : Int32), k2 I x1 = some r → G Tm X ad nM 0 0 I J N (gE X Tm ad nM (r.1, J, N, fun _ => some (.int r.2))) 2 3 [(0, .ref (ad a0)), (1, .int x1)] [])
    (h : Mo_turn_2b N a0 k2 I x1 = some r) : G Tm X ad nM 0 0 I J N (gE X Tm ad nM (r.1, J, N, fun _ => some (.int r.2))) 2 3 [(0, .ref (ad a0)), (1, .int x1)] [] := by
  refine g_iload_n (pc := 2) C d_Mo_turn_2 rfl 1 rfl ?_
  refine g_bipush (pc := 3) C (7 : Int32) d_Mo_turn_3 (by decide) ?_
  refine g_icmp_ge (pc := 5) C 46 d_Mo_turn_5 rfl (fun e1 => ?_) (fun e1 => ?_)
  · have h := o_pos e1 h
    refine g_aload_n (pc := 46) C d_Mo_turn_46 rfl 0 rfl ?_
    obtain ⟨r2, hc3, h⟩ := o_bn1 h
    refine g_V (pc := 47) (rest := []) C (k_Mo_isLawful (xl X) ha0 hc3) sm_Mo_isLawful ml_Mo_124 im_Mo_isLawful se_Mo_isLawful gcX11 rfl ha0 ⟨rfl, rfl, Nat.le_of_ble_eq_true rfl, Nat.le_of_ble_eq_true rfl⟩ ⟨Nat.zero_le _, Nat.zero_le _⟩ rfl rfl (Nat.le_of_ble_eq_true rfl) d_Mo_turn_47 [.int r2] rfl ?_
    refine g_if_eq (pc := 50) C 57 d_Mo_turn_50 rfl (fun e4 => ?_) (fun e4 => ?_)
    · have h := o_pos e4 h
      refine g_iconst (pc := 57) C (0 : Int32) d_Mo_turn_57 (by decide) ?_
      obtain rfl := o_ret h
      exact g_iret (pc := 58) C d_Mo_turn_58
    · have h := o_neg e4 h
      refine g_iconst (pc := 53) C (1 : Int32) d_Mo_turn_53 (by decide) ?_
      refine g_goto (pc := 54) C 58 d_Mo_turn_54 rfl ?_
      obtain rfl := o_ret h
      exact g_iret (pc := 58) C d_Mo_turn_58
  · have h := o_neg e1 h
    refine g_aload_n (pc := 8) C d_Mo_turn_8 rfl 0 rfl ?_
    obtain ⟨b5, hnb5, hb5, h⟩ := o_ra h
    refine g_get (pc := 9) (k := 4) (v := va_rf ((N a0 4).map ad)) C gcX11 inX11 (by decide) fl_Mo_20 ha0 rfl d_Mo_turn_9 ?_
    refine g_top (g_rf hnb5) ?_
    refine g_iload_n (pc := 12) C d_Mo_turn_12 rfl 1 rfl ?_
    obtain ⟨hi6, h⟩ := o_gd h
    refine g_iald (pc := 13) C hb5 hi6 d_Mo_turn_13 ?_
    obtain ⟨v7, ev7, h⟩ := o_bd h
    refine g_topi ev7 ?_
    refine g_istore_n (pc := 14) (lv' := [(2, .int v7), (0, .ref (ad a0)), (1, .int x1)]) C d_Mo_turn_14 rfl (by decide) rfl ?_
    refine g_aload_n (pc := 15) C d_Mo_turn_15 rfl 1 rfl ?_
    obtain ⟨b8, hnb8, hb8, h⟩ := o_ra h
    refine g_get (pc := 16) (k := 4) (v := va_rf ((N a0 4).map ad)) C gcX11 inX11 (by decide) fl_Mo_20 ha0 rfl d_Mo_turn_16 ?_
    refine g_top (g_rf hnb8) ?_
    refine g_iload_n (pc := 19) C d_Mo_turn_19 rfl 2 rfl ?_
    refine g_aload_n (pc := 20) C d_Mo_turn_20 rfl 1 rfl ?_
    obtain ⟨b9, hnb9, hb9, h⟩ := o_ra h
    refine g_get (pc := 21) (k := 4) (v := va_rf ((N a0 4).map ad)) C gcX11 inX11 (by decide) fl_Mo_20 ha0 rfl d_Mo_turn_21 ?_
    refine g_top (g_rf hnb9) ?_
    refine g_bipush (pc := 24) C (7 : Int32) d_Mo_turn_24 (by decide) ?_
    refine g_iload_n (pc := 26) C d_Mo_turn_26 rfl 2 rfl ?_
    refine g_iadd (pc := 27) C d_Mo_turn_27 ?_
    obtain ⟨hi10, h⟩ := o_gd h
    refine g_iald (pc := 28) C hb9 hi10 d_Mo_turn_28 ?_
    obtain ⟨hi11, h⟩ := o_gd h
    refine g_iast (pc := 29) C hb8 hi11 d_Mo_turn_29 ?_
    obtain ⟨I12, eI12, h⟩ := o_bd h
    rw [← eI12]
    refine g_aload_n (pc := 30) C d_Mo_turn_30 rfl 1 rfl ?_
    obtain ⟨b13, hnb13, hb13, h⟩ := o_ra h
    refine g_get (pc := 31) (k := 4) (v := va_rf ((N a0 4).map ad)) C gcX11 inX11 (by decide) fl_Mo_20 ha0 rfl d_Mo_turn_31 ?_
    refine g_top (g_rf hnb13) ?_
    refine g_bipush (pc := 34) C (7 : Int32) d_Mo_turn_34 (by decide) ?_
    refine g_iload_n (pc := 36) C d_Mo_turn_36 rfl 2 rfl ?_
    refine g_iadd (pc := 37) C d_Mo_turn_37 ?_
    refine g_iload_n (pc := 38) C d_Mo_turn_38 rfl 0 rfl ?_
    obtain ⟨hi14, h⟩ := o_gd h
    refine g_iast (pc := 39) C hb13 hi14 d_Mo_turn_39 ?_
    obtain ⟨I15, eI15, h⟩ := o_bd h
    rw [← eI15]
    refine g_iinc (pc := 40) (q := 2) (lv' := [(1, .int (x1 + 1)), (2, .int v7), (0, .ref (ad a0))]) C d_Mo_turn_40 rfl rfl (by decide) rfl ?_
    refine g_goto (pc := 43) C 2 d_Mo_turn_43 rfl ?_
    refine g_lv [2, 0] rfl ?_
    exact hk2 _ _ h
set_option maxRecDepth 20000 in
theorem w_Mo_turn_2 {X : HX} {ad : Nat → Nat} {J : HJ} {N : HN} {r : HI × Int32} {a0 : Nat} (C : Cx X c_Mo_turn RX11 3 (some .int) rm_Mo_turn) (ha0 : gk Tm nM a0 (0, 11)) : ∀ (n : Nat) (I : HI) (x1 : Int32), Mo_turn_2 N a0 n I x1 = some r → G Tm X ad nM 0 0 I J N (gE X Tm ad nM (r.1, J, N, fun _ => some (.int r.2))) 2 3 [(0, .ref (ad a0)), (1, .int x1)] [] := by
  intro n
  induction n with
  | zero => intro I x1 h; cases h
  | succ n ih => intro I x1 h; exact w_Mo_turn_2b C ha0 ih h
set_option maxRecDepth 20000 in
theorem w_Mo_turn_0 {X : HX} {ad : Nat → Nat} {I : HI} {J : HJ} {N : HN} {r : HI × Int32} {a0 : Nat} (C : Cx X c_Mo_turn RX11 3 (some .int) rm_Mo_turn) (ha0 : gk Tm nM a0 (0, 11))
    (h : Mo_turn_0 N a0 I = some r) : G Tm X ad nM 0 0 I J N (gE X Tm ad nM (r.1, J, N, fun _ => some (.int r.2))) 0 3 [(0, .ref (ad a0))] [] := by
  refine g_iconst (pc := 0) C (0 : Int32) d_Mo_turn_0 (by decide) ?_
  refine g_istore_n (pc := 1) (lv' := [(1, .int (0 : Int32)), (0, .ref (ad a0))]) C d_Mo_turn_1 rfl (by decide) rfl ?_
  refine g_lv [1, 0] rfl ?_
  exact w_Mo_turn_2 C ha0 _ _ _ h
set_option maxRecDepth 20000 in
theorem k_Mo_turn (l : Launch) {I : HI} {J : HJ} {N : HN} {a0 : Nat} {r : HI × Int32} (ha0 : gk Tm nM a0 (0, 11)) (h : Mo_turn N a0 I = some r) : gM l y_Mo_turn c_Mo_turn 3 (some .int) rm_Mo_turn Tm nM I J N (fun ad => [.ref (ad a0)]) (r.1, J, N, fun _ => some (.int r.2)) :=
  g_meth (lv := fun ad => [(0, .ref (ad a0))]) (by decide) (fun _ => Nat.le_of_ble_eq_true rfl) (fun _ => rfl) (fun X ad C => g_lv [0] rfl (w_Mo_turn_0 C ha0 h))
theorem d_Mo_reverse_0 : decode c_Mo_reverse 0 = .ok (.aload_n 0, 1) := by decide +kernel
theorem d_Mo_reverse_1 : decode c_Mo_reverse 1 = .ok (.iconst 0, 1) := by decide +kernel
theorem d_Mo_reverse_2 : decode c_Mo_reverse 2 = .ok (.invokevirtual 128, 3) := by decide +kernel
theorem d_Mo_reverse_5 : decode c_Mo_reverse 5 = .ok (.aload_n 0, 1) := by decide +kernel
theorem d_Mo_reverse_6 : decode c_Mo_reverse 6 = .ok (.iconst 1, 1) := by decide +kernel
theorem d_Mo_reverse_7 : decode c_Mo_reverse 7 = .ok (.invokevirtual 128, 3) := by decide +kernel
theorem d_Mo_reverse_10 : decode c_Mo_reverse 10 = .ok (.invokestatic 131, 3) := by decide +kernel
theorem d_Mo_reverse_13 : decode c_Mo_reverse 13 = .ok (.istore_n 1, 1) := by decide +kernel
theorem d_Mo_reverse_14 : decode c_Mo_reverse 14 = .ok (.iload_n 1, 1) := by decide +kernel
theorem d_Mo_reverse_15 : decode c_Mo_reverse 15 = .ok (.iconst (-1), 1) := by decide +kernel
theorem d_Mo_reverse_16 : decode c_Mo_reverse 16 = .ok (.if_icmp .ne 6, 3) := by decide +kernel
theorem d_Mo_reverse_19 : decode c_Mo_reverse 19 = .ok (.bipush (-3), 2) := by decide +kernel
theorem d_Mo_reverse_21 : decode c_Mo_reverse 21 = .ok (.ireturn, 1) := by decide +kernel
theorem d_Mo_reverse_22 : decode c_Mo_reverse 22 = .ok (.iconst 0, 1) := by decide +kernel
theorem d_Mo_reverse_23 : decode c_Mo_reverse 23 = .ok (.istore_n 2, 1) := by decide +kernel
theorem d_Mo_reverse_24 : decode c_Mo_reverse 24 = .ok (.iload_n 2, 1) := by decide +kernel
theorem d_Mo_reverse_25 : decode c_Mo_reverse 25 = .ok (.iconst 2, 1) := by decide +kernel
theorem d_Mo_reverse_26 : decode c_Mo_reverse 26 = .ok (.if_icmp .ge 76, 3) := by decide +kernel
theorem d_Mo_reverse_29 : decode c_Mo_reverse 29 = .ok (.iconst 0, 1) := by decide +kernel
theorem d_Mo_reverse_30 : decode c_Mo_reverse 30 = .ok (.istore_n 3, 1) := by decide +kernel
theorem d_Mo_reverse_31 : decode c_Mo_reverse 31 = .ok (.iload_n 3, 1) := by decide +kernel
theorem d_Mo_reverse_32 : decode c_Mo_reverse 32 = .ok (.iload_n 1, 1) := by decide +kernel
theorem d_Mo_reverse_33 : decode c_Mo_reverse 33 = .ok (.iload_n 3, 1) := by decide +kernel
theorem d_Mo_reverse_34 : decode c_Mo_reverse 34 = .ok (.isub, 1) := by decide +kernel
theorem d_Mo_reverse_35 : decode c_Mo_reverse 35 = .ok (.if_icmp .ge 61, 3) := by decide +kernel
theorem d_Mo_reverse_38 : decode c_Mo_reverse 38 = .ok (.aload_n 0, 1) := by decide +kernel
theorem d_Mo_reverse_39 : decode c_Mo_reverse 39 = .ok (.getfield 20, 3) := by decide +kernel
theorem d_Mo_reverse_42 : decode c_Mo_reverse 42 = .ok (.bipush 7, 2) := by decide +kernel
theorem d_Mo_reverse_44 : decode c_Mo_reverse 44 = .ok (.iload_n 2, 1) := by decide +kernel
theorem d_Mo_reverse_45 : decode c_Mo_reverse 45 = .ok (.imul, 1) := by decide +kernel
theorem d_Mo_reverse_46 : decode c_Mo_reverse 46 = .ok (.iload_n 3, 1) := by decide +kernel
theorem d_Mo_reverse_47 : decode c_Mo_reverse 47 = .ok (.iadd, 1) := by decide +kernel
theorem d_Mo_reverse_48 : decode c_Mo_reverse 48 = .ok (.iaload, 1) := by decide +kernel
theorem d_Mo_reverse_49 : decode c_Mo_reverse 49 = .ok (.istore 4, 2) := by decide +kernel
theorem d_Mo_reverse_51 : decode c_Mo_reverse 51 = .ok (.aload_n 0, 1) := by decide +kernel
theorem d_Mo_reverse_52 : decode c_Mo_reverse 52 = .ok (.getfield 20, 3) := by decide +kernel
theorem d_Mo_reverse_55 : decode c_Mo_reverse 55 = .ok (.bipush 7, 2) := by decide +kernel
theorem d_Mo_reverse_57 : decode c_Mo_reverse 57 = .ok (.iload_n 2, 1) := by decide +kernel
theorem d_Mo_reverse_58 : decode c_Mo_reverse 58 = .ok (.imul, 1) := by decide +kernel
theorem d_Mo_reverse_59 : decode c_Mo_reverse 59 = .ok (.iload_n 3, 1) := by decide +kernel
theorem d_Mo_reverse_60 : decode c_Mo_reverse 60 = .ok (.iadd, 1) := by decide +kernel
theorem d_Mo_reverse_61 : decode c_Mo_reverse 61 = .ok (.aload_n 0, 1) := by decide +kernel
theorem d_Mo_reverse_62 : decode c_Mo_reverse 62 = .ok (.getfield 20, 3) := by decide +kernel
theorem d_Mo_reverse_65 : decode c_Mo_reverse 65 = .ok (.bipush 7, 2) := by decide +kernel
theorem d_Mo_reverse_67 : decode c_Mo_reverse 67 = .ok (.iload_n 2, 1) := by decide +kernel
theorem d_Mo_reverse_68 : decode c_Mo_reverse 68 = .ok (.imul, 1) := by decide +kernel
theorem d_Mo_reverse_69 : decode c_Mo_reverse 69 = .ok (.iload_n 1, 1) := by decide +kernel
theorem d_Mo_reverse_70 : decode c_Mo_reverse 70 = .ok (.iadd, 1) := by decide +kernel
theorem d_Mo_reverse_71 : decode c_Mo_reverse 71 = .ok (.iload_n 3, 1) := by decide +kernel
theorem d_Mo_reverse_72 : decode c_Mo_reverse 72 = .ok (.isub, 1) := by decide +kernel
theorem d_Mo_reverse_73 : decode c_Mo_reverse 73 = .ok (.iaload, 1) := by decide +kernel
theorem d_Mo_reverse_74 : decode c_Mo_reverse 74 = .ok (.iastore, 1) := by decide +kernel
theorem d_Mo_reverse_75 : decode c_Mo_reverse 75 = .ok (.aload_n 0, 1) := by decide +kernel
theorem d_Mo_reverse_76 : decode c_Mo_reverse 76 = .ok (.getfield 20, 3) := by decide +kernel
theorem d_Mo_reverse_79 : decode c_Mo_reverse 79 = .ok (.bipush 7, 2) := by decide +kernel
theorem d_Mo_reverse_81 : decode c_Mo_reverse 81 = .ok (.iload_n 2, 1) := by decide +kernel
theorem d_Mo_reverse_82 : decode c_Mo_reverse 82 = .ok (.imul, 1) := by decide +kernel
theorem d_Mo_reverse_83 : decode c_Mo_reverse 83 = .ok (.iload_n 1, 1) := by decide +kernel
theorem d_Mo_reverse_84 : decode c_Mo_reverse 84 = .ok (.iadd, 1) := by decide +kernel
theorem d_Mo_reverse_85 : decode c_Mo_reverse 85 = .ok (.iload_n 3, 1) := by decide +kernel
theorem d_Mo_reverse_86 : decode c_Mo_reverse 86 = .ok (.isub, 1) := by decide +kernel
theorem d_Mo_reverse_87 : decode c_Mo_reverse 87 = .ok (.iload 4, 2) := by decide +kernel
theorem d_Mo_reverse_89 : decode c_Mo_reverse 89 = .ok (.iastore, 1) := by decide +kernel
theorem d_Mo_reverse_90 : decode c_Mo_reverse 90 = .ok (.iinc 3 1, 3) := by decide +kernel
theorem d_Mo_reverse_93 : decode c_Mo_reverse 93 = .ok (.goto (-62), 3) := by decide +kernel
theorem d_Mo_reverse_96 : decode c_Mo_reverse 96 = .ok (.iinc 2 1, 3) := by decide +kernel
theorem d_Mo_reverse_99 : decode c_Mo_reverse 99 = .ok (.goto (-75), 3) := by decide +kernel
theorem d_Mo_reverse_102 : decode c_Mo_reverse 102 = .ok (.iload_n 1, 1) := by decide +kernel
theorem d_Mo_reverse_103 : decode c_Mo_reverse 103 = .ok (.ireturn, 1) := by decide +kernel
set_option maxRecDepth 20000 in
theorem w_Mo_reverse_31b {X : HX} {ad : Nat → Nat} {I : HI} {J : HJ} {N : HN} {r : HI × Int32} {k24 : HI → Int32 → Int32 → Option (HI × Int32)} {k31 : HI → Int32 → Int32 → Int32 → Option (HI × Int32)} {a0 : Nat} {x1 : Int32} {x2 : Int32} {x3 : Int32} (C : Cx X c_Mo_reverse RX11 5 (some .int) rm_Mo_reverse) (ha0 : gk Tm nM a0 (0, 11))
    (hk24 : ∀ (I : HI) (x1 : Int32) (x2 : Int32), k24 I x1 x2 = some r → G Tm X ad nM 0 0 I J N (gE X Tm ad nM (r.1, J, N, fun _ => some (.int r.2))) 24 5 [(0, .ref (ad a0)), (1, .int x1), (2, .int x2)] [])
    (hk31 : ∀ (I : HI) (x1 : Int32) (x2 : Int32) (x3 : Int32), k31 I x1 x2 x3 = some r → G Tm X ad nM 0 0 I J N (gE X Tm ad nM (r.1, J, N, fun _ => some (.int r.2))) 31 5 [(0, .ref (ad a0)), (1, .int x1), (2, .int x2), (3, .int x3)] [])
    (h : Mo_reverse_31b N a0 k24 k31 I x1 x2 x3 = some r) : G Tm X ad nM 0 0 I J N (gE X Tm ad nM (r.1, J, N, fun _ => some (.int r.2))) 31 5 [(0, .ref (ad a0)), (1, .int x1), (2, .int x2), (3, .int x3)] [] := by
  refine g_iload_n (pc := 31) C d_Mo_reverse_31 rfl 3 rfl ?_
  refine g_iload_n (pc := 32) C d_Mo_reverse_32 rfl 1 rfl ?_
  refine g_iload_n (pc := 33) C d_Mo_reverse_33 rfl 3 rfl ?_
  refine g_isub (pc := 34) C d_Mo_reverse_34 ?_
  refine g_icmp_ge (pc := 35) C 96 d_Mo_reverse_35 rfl (fun e1 => ?_) (fun e1 => ?_)
  · have h := o_pos e1 h
    refine g_iinc (pc := 96) (q := 2) (lv' := [(2, .int (x2 + 1)), (0, .ref (ad a0)), (1, .int x1), (3, .int x3)]) C d_Mo_reverse_96 rfl rfl (by decide) rfl ?_
    refine g_goto (pc := 99) C 24 d_Mo_reverse_99 rfl ?_
    refine g_lv [1, 2, 0] rfl ?_
    exact hk24 _ _ _ h
  · have h := o_neg e1 h
    refine g_aload_n (pc := 38) C d_Mo_reverse_38 rfl 0 rfl ?_
    obtain ⟨b2, hnb2, hb2, h⟩ := o_ra h
    refine g_get (pc := 39) (k := 4) (v := va_rf ((N a0 4).map ad)) C gcX11 inX11 (by decide) fl_Mo_20 ha0 rfl d_Mo_reverse_39 ?_
    refine g_top (g_rf hnb2) ?_
    refine g_bipush (pc := 42) C (7 : Int32) d_Mo_reverse_42 (by decide) ?_
    refine g_iload_n (pc := 44) C d_Mo_reverse_44 rfl 2 rfl ?_
    refine g_imul (pc := 45) C d_Mo_reverse_45 ?_
    refine g_iload_n (pc := 46) C d_Mo_reverse_46 rfl 3 rfl ?_
    refine g_iadd (pc := 47) C d_Mo_reverse_47 ?_
    obtain ⟨hi3, h⟩ := o_gd h
    refine g_iald (pc := 48) C hb2 hi3 d_Mo_reverse_48 ?_
    obtain ⟨v4, ev4, h⟩ := o_bd h
    refine g_topi ev4 ?_
    refine g_istore (pc := 49) (lv' := [(4, .int v4), (0, .ref (ad a0)), (1, .int x1), (2, .int x2), (3, .int x3)]) C d_Mo_reverse_49 (by decide) rfl ?_
    refine g_aload_n (pc := 51) C d_Mo_reverse_51 rfl 1 rfl ?_
    obtain ⟨b5, hnb5, hb5, h⟩ := o_ra h
    refine g_get (pc := 52) (k := 4) (v := va_rf ((N a0 4).map ad)) C gcX11 inX11 (by decide) fl_Mo_20 ha0 rfl d_Mo_reverse_52 ?_
    refine g_top (g_rf hnb5) ?_
    refine g_bipush (pc := 55) C (7 : Int32) d_Mo_reverse_55 (by decide) ?_
    refine g_iload_n (pc := 57) C d_Mo_reverse_57 rfl 3 rfl ?_
    refine g_imul (pc := 58) C d_Mo_reverse_58 ?_
    refine g_iload_n (pc := 59) C d_Mo_reverse_59 rfl 4 rfl ?_
    refine g_iadd (pc := 60) C d_Mo_reverse_60 ?_
    refine g_aload_n (pc := 61) C d_Mo_reverse_61 rfl 1 rfl ?_
    obtain ⟨b6, hnb6, hb6, h⟩ := o_ra h
    refine g_get (pc := 62) (k := 4) (v := va_rf ((N a0 4).map ad)) C gcX11 inX11 (by decide) fl_Mo_20 ha0 rfl d_Mo_reverse_62 ?_
    refine g_top (g_rf hnb6) ?_
    refine g_bipush (pc := 65) C (7 : Int32) d_Mo_reverse_65 (by decide) ?_
    refine g_iload_n (pc := 67) C d_Mo_reverse_67 rfl 3 rfl ?_
    refine g_imul (pc := 68) C d_Mo_reverse_68 ?_
    refine g_iload_n (pc := 69) C d_Mo_reverse_69 rfl 2 rfl ?_
    refine g_iadd (pc := 70) C d_Mo_reverse_70 ?_
    refine g_iload_n (pc := 71) C d_Mo_reverse_71 rfl 4 rfl ?_
    refine g_isub (pc := 72) C d_Mo_reverse_72 ?_
    obtain ⟨hi7, h⟩ := o_gd h
    refine g_iald (pc := 73) C hb6 hi7 d_Mo_reverse_73 ?_
    obtain ⟨hi8, h⟩ := o_gd h
    refine g_iast (pc := 74) C hb5 hi8 d_Mo_reverse_74 ?_
    obtain ⟨I9, eI9, h⟩ := o_bd h
    rw [← eI9]
    refine g_aload_n (pc := 75) C d_Mo_reverse_75 rfl 1 rfl ?_
    obtain ⟨b10, hnb10, hb10, h⟩ := o_ra h
    refine g_get (pc := 76) (k := 4) (v := va_rf ((N a0 4).map ad)) C gcX11 inX11 (by decide) fl_Mo_20 ha0 rfl d_Mo_reverse_76 ?_
    refine g_top (g_rf hnb10) ?_
    refine g_bipush (pc := 79) C (7 : Int32) d_Mo_reverse_79 (by decide) ?_
    refine g_iload_n (pc := 81) C d_Mo_reverse_81 rfl 3 rfl ?_
    refine g_imul (pc := 82) C d_Mo_reverse_82 ?_
    refine g_iload_n (pc := 83) C d_Mo_reverse_83 rfl 2 rfl ?_
    refine g_iadd (pc := 84) C d_Mo_reverse_84 ?_
    refine g_iload_n (pc := 85) C d_Mo_reverse_85 rfl 4 rfl ?_
    refine g_isub (pc := 86) C d_Mo_reverse_86 ?_
    refine g_iload (pc := 87) C d_Mo_reverse_87 0 rfl ?_
    obtain ⟨hi11, h⟩ := o_gd h
    refine g_iast (pc := 89) C hb10 hi11 d_Mo_reverse_89 ?_
    obtain ⟨I12, eI12, h⟩ := o_bd h
    rw [← eI12]
    refine g_iinc (pc := 90) (q := 4) (lv' := [(3, .int (x3 + 1)), (4, .int v4), (0, .ref (ad a0)), (1, .int x1), (2, .int x2)]) C d_Mo_reverse_90 rfl rfl (by decide) rfl ?_
    refine g_goto (pc := 93) C 31 d_Mo_reverse_93 rfl ?_
    refine g_lv [2, 3, 4, 0] rfl ?_
    exact hk31 _ _ _ _ h
set_option maxRecDepth 20000 in
theorem w_Mo_reverse_31 {X : HX} {ad : Nat → Nat} {J : HJ} {N : HN} {r : HI × Int32} {k24 : HI → Int32 → Int32 → Option (HI × Int32)} {a0 : Nat} (C : Cx X c_Mo_reverse RX11 5 (some .int) rm_Mo_reverse) (ha0 : gk Tm nM a0 (0, 11))
    (hk24 : ∀ (I : HI) (x1 : Int32) (x2 : Int32), k24 I x1 x2 = some r → G Tm X ad nM 0 0 I J N (gE X Tm ad nM (r.1, J, N, fun _ => some (.int r.2))) 24 5 [(0, .ref (ad a0)), (1, .int x1), (2, .int x2)] []) : ∀ (n : Nat) (I : HI) (x1 : Int32) (x2 : Int32) (x3 : Int32), Mo_reverse_31 N a0 k24 n I x1 x2 x3 = some r → G Tm X ad nM 0 0 I J N (gE X Tm ad nM (r.1, J, N, fun _ => some (.int r.2))) 31 5 [(0, .ref (ad a0)), (1, .int x1), (2, .int x2), (3, .int x3)] [] := by
  intro n
  induction n with
  | zero => intro I x1 x2 x3 h; cases h
  | succ n ih => intro I x1 x2 x3 h; exact w_Mo_reverse_31b C ha0 hk24 ih h
set_option maxRecDepth 20000 in
theorem w_Mo_reverse_24b {X : HX} {ad : Nat → Nat} {I : HI} {J : HJ} {N : HN} {r : HI × Int32} {k24 : HI → Int32 → Int32 → Option (HI × Int32)} {a0 : Nat} {x1 : Int32} {x2 : Int32} (C : Cx X c_Mo_reverse RX11 5 (some .int) rm_Mo_reverse) (ha0 : gk Tm nM a0 (0, 11))
    (hk24 : ∀ (I : HI) (x1 : Int32) (x2 : Int32), k24 I x1 x2 = some r → G Tm X ad nM 0 0 I J N (gE X Tm ad nM (r.1, J, N, fun _ => some (.int r.2))) 24 5 [(0, .ref (ad a0)), (1, .int x1), (2, .int x2)] [])
    (h : Mo_reverse_24b N a0 k24 I x1 x2 = some r) : G Tm X ad nM 0 0 I J N (gE X Tm ad nM (r.1, J, N, fun _ => some (.int r.2))) 24 5 [(0, .ref (ad a0)), (1, .int x1), (2, .int x2)] [] := by
  refine g_iload_n (pc := 24) C d_Mo_reverse_24 rfl 2 rfl ?_
  refine g_iconst (pc := 25) C (2 : Int32) d_Mo_reverse_25 (by decide) ?_
  refine g_icmp_ge (pc := 26) C 102 d_Mo_reverse_26 rfl (fun e1 => ?_) (fun e1 => ?_)
  · have h := o_pos e1 h
    refine g_iload_n (pc := 102) C d_Mo_reverse_102 rfl 1 rfl ?_
    obtain rfl := o_ret h
    exact g_iret (pc := 103) C d_Mo_reverse_103
  · have h := o_neg e1 h
    refine g_iconst (pc := 29) C (0 : Int32) d_Mo_reverse_29 (by decide) ?_
    refine g_istore_n (pc := 30) (lv' := [(3, .int (0 : Int32)), (0, .ref (ad a0)), (1, .int x1), (2, .int x2)]) C d_Mo_reverse_30 rfl (by decide) rfl ?_
    refine g_lv [1, 2, 3, 0] rfl ?_
    exact w_Mo_reverse_31 C ha0 hk24 _ _ _ _ _ h
set_option maxRecDepth 20000 in
theorem w_Mo_reverse_24 {X : HX} {ad : Nat → Nat} {J : HJ} {N : HN} {r : HI × Int32} {a0 : Nat} (C : Cx X c_Mo_reverse RX11 5 (some .int) rm_Mo_reverse) (ha0 : gk Tm nM a0 (0, 11)) : ∀ (n : Nat) (I : HI) (x1 : Int32) (x2 : Int32), Mo_reverse_24 N a0 n I x1 x2 = some r → G Tm X ad nM 0 0 I J N (gE X Tm ad nM (r.1, J, N, fun _ => some (.int r.2))) 24 5 [(0, .ref (ad a0)), (1, .int x1), (2, .int x2)] [] := by
  intro n
  induction n with
  | zero => intro I x1 x2 h; cases h
  | succ n ih => intro I x1 x2 h; exact w_Mo_reverse_24b C ha0 ih h
set_option maxRecDepth 20000 in
theorem w_Mo_reverse_0 {X : HX} {ad : Nat → Nat} {I : HI} {J : HJ} {N : HN} {r : HI × Int32} {a0 : Nat} (C : Cx X c_Mo_reverse RX11 5 (some .int) rm_Mo_reverse) (ha0 : gk Tm nM a0 (0, 11))
    (h : Mo_reverse_0 N a0 I = some r) : G Tm X ad nM 0 0 I J N (gE X Tm ad nM (r.1, J, N, fun _ => some (.int r.2))) 0 5 [(0, .ref (ad a0))] [] := by
  refine g_aload_n (pc := 0) C d_Mo_reverse_0 rfl 0 rfl ?_
  refine g_iconst (pc := 1) C (0 : Int32) d_Mo_reverse_1 (by decide) ?_
  obtain ⟨r1, hc2, h⟩ := o_bn1 h
  refine g_V (pc := 2) (rest := []) C (k_Mo_degree (xl X) ha0 hc2) sm_Mo_degree ml_Mo_128 im_Mo_degree se_Mo_degree gcX11 rfl ha0 ⟨rfl, rfl, Nat.le_of_ble_eq_true rfl, Nat.le_of_ble_eq_true rfl⟩ ⟨Nat.zero_le _, Nat.zero_le _⟩ rfl rfl (Nat.le_of_ble_eq_true rfl) d_Mo_reverse_2 [.int r1] rfl ?_
  refine g_aload_n (pc := 5) C d_Mo_reverse_5 rfl 0 rfl ?_
  refine g_iconst (pc := 6) C (1 : Int32) d_Mo_reverse_6 (by decide) ?_
  obtain ⟨r3, hc4, h⟩ := o_bn1 h
  refine g_V (pc := 7) (rest := [.int r1]) C (k_Mo_degree (xl X) ha0 hc4) sm_Mo_degree ml_Mo_128 im_Mo_degree se_Mo_degree gcX11 rfl ha0 ⟨rfl, rfl, Nat.le_of_ble_eq_true rfl, Nat.le_of_ble_eq_true rfl⟩ ⟨Nat.zero_le _, Nat.zero_le _⟩ rfl rfl (Nat.le_of_ble_eq_true rfl) d_Mo_reverse_7 [.int r3, .int r1] rfl ?_
  obtain ⟨r5, hc6, h⟩ := o_bn1 h
  refine g_S (pc := 10) (rest := []) C (k_Mo_greater (xl X)  hc6) sm_Mo_greater ml_Mo_131 st_Mo_greater ⟨rfl, rfl, Nat.le_of_ble_eq_true rfl, Nat.le_of_ble_eq_true rfl⟩ ⟨Nat.zero_le _, Nat.zero_le _⟩ rfl rfl (Nat.le_of_ble_eq_true rfl) d_Mo_reverse_10 [.int r5] rfl ?_
  refine g_istore_n (pc := 13) (lv' := [(1, .int r5), (0, .ref (ad a0))]) C d_Mo_reverse_13 rfl (by decide) rfl ?_
  refine g_iload_n (pc := 14) C d_Mo_reverse_14 rfl 0 rfl ?_
  refine g_iconst (pc := 15) C (-1 : Int32) d_Mo_reverse_15 (by decide) ?_
  refine g_icmp_ne (pc := 16) C 22 d_Mo_reverse_16 rfl (fun e7 => ?_) (fun e7 => ?_)
  · have h := o_neg e7 h
    refine g_iconst (pc := 22) C (0 : Int32) d_Mo_reverse_22 (by decide) ?_
    refine g_istore_n (pc := 23) (lv' := [(2, .int (0 : Int32)), (1, .int r5), (0, .ref (ad a0))]) C d_Mo_reverse_23 rfl (by decide) rfl ?_
    refine g_lv [2, 1, 0] rfl ?_
    exact w_Mo_reverse_24 C ha0 _ _ _ _ h
  · have h := o_pos e7 h
    refine g_bipush (pc := 19) C (-3 : Int32) d_Mo_reverse_19 (by decide) ?_
    obtain rfl := o_ret h
    exact g_iret (pc := 21) C d_Mo_reverse_21
set_option maxRecDepth 20000 in
theorem k_Mo_reverse (l : Launch) {I : HI} {J : HJ} {N : HN} {a0 : Nat} {r : HI × Int32} (ha0 : gk Tm nM a0 (0, 11)) (h : Mo_reverse N a0 I = some r) : gM l y_Mo_reverse c_Mo_reverse 5 (some .int) rm_Mo_reverse Tm nM I J N (fun ad => [.ref (ad a0)]) (r.1, J, N, fun _ => some (.int r.2)) :=
  g_meth (lv := fun ad => [(0, .ref (ad a0))]) (by decide) (fun _ => Nat.le_of_ble_eq_true rfl) (fun _ => rfl) (fun X ad C => g_lv [0] rfl (w_Mo_reverse_0 C ha0 h))
