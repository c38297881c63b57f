theorem d_Mo_byRoots_0 : decode c_Mo_byRoots 0 = .ok (.aload_n 0, 1) := by decide +kernel
theorem d_Mo_byRoots_1 : decode c_Mo_byRoots 1 = .ok (.invokevirtual 235, 3) := by decide +kernel
theorem d_Mo_byRoots_4 : decode c_Mo_byRoots 4 = .ok (.iload_n 1, 1) := by decide +kernel
theorem d_Mo_byRoots_5 : decode c_Mo_byRoots 5 = .ok (.iconst 2, 1) := by decide +kernel
theorem d_Mo_byRoots_6 : decode c_Mo_byRoots 6 = .ok (.if_icmp .ne 7, 3) := by decide +kernel
theorem d_Mo_byRoots_9 : decode c_Mo_byRoots 9 = .ok (.iconst 0, 1) := by decide +kernel
theorem d_Mo_byRoots_10 : decode c_Mo_byRoots 10 = .ok (.goto 4, 3) := by decide +kernel
theorem d_Mo_byRoots_13 : decode c_Mo_byRoots 13 = .ok (.iconst 1, 1) := by decide +kernel
theorem d_Mo_byRoots_14 : decode c_Mo_byRoots 14 = .ok (.istore_n 2, 1) := by decide +kernel
theorem d_Mo_byRoots_15 : decode c_Mo_byRoots 15 = .ok (.aload_n 0, 1) := by decide +kernel
theorem d_Mo_byRoots_16 : decode c_Mo_byRoots 16 = .ok (.iload_n 2, 1) := by decide +kernel
theorem d_Mo_byRoots_17 : decode c_Mo_byRoots 17 = .ok (.invokevirtual 121, 3) := by decide +kernel
theorem d_Mo_byRoots_20 : decode c_Mo_byRoots 20 = .ok (.iconst 1, 1) := by decide +kernel
theorem d_Mo_byRoots_21 : decode c_Mo_byRoots 21 = .ok (.if_icmp .ne 7, 3) := by decide +kernel
theorem d_Mo_byRoots_24 : decode c_Mo_byRoots 24 = .ok (.iconst 1, 1) := by decide +kernel
theorem d_Mo_byRoots_25 : decode c_Mo_byRoots 25 = .ok (.goto 4, 3) := by decide +kernel
theorem d_Mo_byRoots_28 : decode c_Mo_byRoots 28 = .ok (.iconst 0, 1) := by decide +kernel
theorem d_Mo_byRoots_29 : decode c_Mo_byRoots 29 = .ok (.istore_n 3, 1) := by decide +kernel
theorem d_Mo_byRoots_30 : decode c_Mo_byRoots 30 = .ok (.aload_n 0, 1) := by decide +kernel
theorem d_Mo_byRoots_31 : decode c_Mo_byRoots 31 = .ok (.iload_n 2, 1) := by decide +kernel
theorem d_Mo_byRoots_32 : decode c_Mo_byRoots 32 = .ok (.iload_n 3, 1) := by decide +kernel
theorem d_Mo_byRoots_33 : decode c_Mo_byRoots 33 = .ok (.aload_n 0, 1) := by decide +kernel
theorem d_Mo_byRoots_34 : decode c_Mo_byRoots 34 = .ok (.getfield 35, 3) := by decide +kernel
theorem d_Mo_byRoots_37 : decode c_Mo_byRoots 37 = .ok (.invokevirtual 238, 3) := by decide +kernel
theorem d_Mo_byRoots_40 : decode c_Mo_byRoots 40 = .ok (.aload_n 0, 1) := by decide +kernel
theorem d_Mo_byRoots_41 : decode c_Mo_byRoots 41 = .ok (.iconst 1, 1) := by decide +kernel
theorem d_Mo_byRoots_42 : decode c_Mo_byRoots 42 = .ok (.iload_n 2, 1) := by decide +kernel
theorem d_Mo_byRoots_43 : decode c_Mo_byRoots 43 = .ok (.isub, 1) := by decide +kernel
theorem d_Mo_byRoots_44 : decode c_Mo_byRoots 44 = .ok (.iconst 0, 1) := by decide +kernel
theorem d_Mo_byRoots_45 : decode c_Mo_byRoots 45 = .ok (.aload_n 0, 1) := by decide +kernel
theorem d_Mo_byRoots_46 : decode c_Mo_byRoots 46 = .ok (.getfield 38, 3) := by decide +kernel
theorem d_Mo_byRoots_49 : decode c_Mo_byRoots 49 = .ok (.invokevirtual 238, 3) := by decide +kernel
theorem d_Mo_byRoots_52 : decode c_Mo_byRoots 52 = .ok (.aload_n 0, 1) := by decide +kernel
theorem d_Mo_byRoots_53 : decode c_Mo_byRoots 53 = .ok (.getfield 35, 3) := by decide +kernel
theorem d_Mo_byRoots_56 : decode c_Mo_byRoots 56 = .ok (.iconst 0, 1) := by decide +kernel
theorem d_Mo_byRoots_57 : decode c_Mo_byRoots 57 = .ok (.laload, 1) := by decide +kernel
theorem d_Mo_byRoots_58 : decode c_Mo_byRoots 58 = .ok (.lconst 0, 1) := by decide +kernel
theorem d_Mo_byRoots_59 : decode c_Mo_byRoots 59 = .ok (.lcmp, 1) := by decide +kernel
theorem d_Mo_byRoots_60 : decode c_Mo_byRoots 60 = .ok (.ifCond .ne 31, 3) := by decide +kernel
theorem d_Mo_byRoots_63 : decode c_Mo_byRoots 63 = .ok (.aload_n 0, 1) := by decide +kernel
theorem d_Mo_byRoots_64 : decode c_Mo_byRoots 64 = .ok (.getfield 38, 3) := by decide +kernel
theorem d_Mo_byRoots_67 : decode c_Mo_byRoots 67 = .ok (.iconst 0, 1) := by decide +kernel
theorem d_Mo_byRoots_68 : decode c_Mo_byRoots 68 = .ok (.laload, 1) := by decide +kernel
theorem d_Mo_byRoots_69 : decode c_Mo_byRoots 69 = .ok (.lconst 0, 1) := by decide +kernel
theorem d_Mo_byRoots_70 : decode c_Mo_byRoots 70 = .ok (.lcmp, 1) := by decide +kernel
theorem d_Mo_byRoots_71 : decode c_Mo_byRoots 71 = .ok (.ifCond .ne 20, 3) := by decide +kernel
theorem d_Mo_byRoots_74 : decode c_Mo_byRoots 74 = .ok (.aload_n 0, 1) := by decide +kernel
theorem d_Mo_byRoots_75 : decode c_Mo_byRoots 75 = .ok (.getfield 35, 3) := by decide +kernel
theorem d_Mo_byRoots_78 : decode c_Mo_byRoots 78 = .ok (.invokestatic 227, 3) := by decide +kernel
theorem d_Mo_byRoots_81 : decode c_Mo_byRoots 81 = .ok (.aload_n 0, 1) := by decide +kernel
theorem d_Mo_byRoots_82 : decode c_Mo_byRoots 82 = .ok (.getfield 38, 3) := by decide +kernel
theorem d_Mo_byRoots_85 : decode c_Mo_byRoots 85 = .ok (.invokestatic 227, 3) := by decide +kernel
theorem d_Mo_byRoots_88 : decode c_Mo_byRoots 88 = .ok (.goto (-36), 3) := by decide +kernel
theorem d_Mo_byRoots_91 : decode c_Mo_byRoots 91 = .ok (.aload_n 0, 1) := by decide +kernel
theorem d_Mo_byRoots_92 : decode c_Mo_byRoots 92 = .ok (.invokevirtual 242, 3) := by decide +kernel
theorem d_Mo_byRoots_95 : decode c_Mo_byRoots 95 = .ok (.ifCond .eq 6, 3) := by decide +kernel
theorem d_Mo_byRoots_98 : decode c_Mo_byRoots 98 = .ok (.bipush (-6), 2) := by decide +kernel
theorem d_Mo_byRoots_100 : decode c_Mo_byRoots 100 = .ok (.ireturn, 1) := by decide +kernel
theorem d_Mo_byRoots_101 : decode c_Mo_byRoots 101 = .ok (.aload_n 0, 1) := by decide +kernel
theorem d_Mo_byRoots_102 : decode c_Mo_byRoots 102 = .ok (.iconst 0, 1) := by decide +kernel
theorem d_Mo_byRoots_103 : decode c_Mo_byRoots 103 = .ok (.putfield 175, 3) := by decide +kernel
theorem d_Mo_byRoots_106 : decode c_Mo_byRoots 106 = .ok (.aload_n 0, 1) := by decide +kernel
theorem d_Mo_byRoots_107 : decode c_Mo_byRoots 107 = .ok (.iload_n 1, 1) := by decide +kernel
theorem d_Mo_byRoots_108 : decode c_Mo_byRoots 108 = .ok (.invokevirtual 245, 3) := by decide +kernel
theorem d_Mo_byRoots_111 : decode c_Mo_byRoots 111 = .ok (.istore 4, 2) := by decide +kernel
theorem d_Mo_byRoots_113 : decode c_Mo_byRoots 113 = .ok (.aload_n 0, 1) := by decide +kernel
theorem d_Mo_byRoots_114 : decode c_Mo_byRoots 114 = .ok (.invokevirtual 248, 3) := by decide +kernel
theorem d_Mo_byRoots_117 : decode c_Mo_byRoots 117 = .ok (.iconst 2, 1) := by decide +kernel
theorem d_Mo_byRoots_118 : decode c_Mo_byRoots 118 = .ok (.istore 5, 2) := by decide +kernel
theorem d_Mo_byRoots_120 : decode c_Mo_byRoots 120 = .ok (.iconst 0, 1) := by decide +kernel
theorem d_Mo_byRoots_121 : decode c_Mo_byRoots 121 = .ok (.istore 6, 2) := by decide +kernel
theorem d_Mo_byRoots_123 : decode c_Mo_byRoots 123 = .ok (.iload 6, 2) := by decide +kernel
theorem d_Mo_byRoots_125 : decode c_Mo_byRoots 125 = .ok (.aload_n 0, 1) := by decide +kernel
theorem d_Mo_byRoots_126 : decode c_Mo_byRoots 126 = .ok (.getfield 221, 3) := by decide +kernel
theorem d_Mo_byRoots_129 : decode c_Mo_byRoots 129 = .ok (.if_icmp .ge 51, 3) := by decide +kernel
theorem d_Mo_byRoots_132 : decode c_Mo_byRoots 132 = .ok (.iload 4, 2) := by decide +kernel
theorem d_Mo_byRoots_134 : decode c_Mo_byRoots 134 = .ok (.ifCond .ne 46, 3) := by decide +kernel
theorem d_Mo_byRoots_137 : decode c_Mo_byRoots 137 = .ok (.aload_n 0, 1) := by decide +kernel
theorem d_Mo_byRoots_138 : decode c_Mo_byRoots 138 = .ok (.iload 6, 2) := by decide +kernel
theorem d_Mo_byRoots_140 : decode c_Mo_byRoots 140 = .ok (.invokevirtual 251, 3) := by decide +kernel
theorem d_Mo_byRoots_143 : decode c_Mo_byRoots 143 = .ok (.ifCond .eq 31, 3) := by decide +kernel
theorem d_Mo_byRoots_146 : decode c_Mo_byRoots 146 = .ok (.aload_n 0, 1) := by decide +kernel
theorem d_Mo_byRoots_147 : decode c_Mo_byRoots 147 = .ok (.iload_n 1, 1) := by decide +kernel
theorem d_Mo_byRoots_148 : decode c_Mo_byRoots 148 = .ok (.iload 5, 2) := by decide +kernel
theorem d_Mo_byRoots_150 : decode c_Mo_byRoots 150 = .ok (.aload_n 0, 1) := by decide +kernel
theorem d_Mo_byRoots_151 : decode c_Mo_byRoots 151 = .ok (.getfield 47, 3) := by decide +kernel
theorem d_Mo_byRoots_154 : decode c_Mo_byRoots 154 = .ok (.iload 6, 2) := by decide +kernel
theorem d_Mo_byRoots_156 : decode c_Mo_byRoots 156 = .ok (.iaload, 1) := by decide +kernel
theorem d_Mo_byRoots_157 : decode c_Mo_byRoots 157 = .ok (.i2l, 1) := by decide +kernel
theorem d_Mo_byRoots_158 : decode c_Mo_byRoots 158 = .ok (.aload_n 0, 1) := by decide +kernel
theorem d_Mo_byRoots_159 : decode c_Mo_byRoots 159 = .ok (.getfield 50, 3) := by decide +kernel
theorem d_Mo_byRoots_162 : decode c_Mo_byRoots 162 = .ok (.iload 6, 2) := by decide +kernel
theorem d_Mo_byRoots_164 : decode c_Mo_byRoots 164 = .ok (.iaload, 1) := by decide +kernel
theorem d_Mo_byRoots_165 : decode c_Mo_byRoots 165 = .ok (.i2l, 1) := by decide +kernel
theorem d_Mo_byRoots_166 : decode c_Mo_byRoots 166 = .ok (.invokevirtual 254, 3) := by decide +kernel
theorem d_Mo_byRoots_169 : decode c_Mo_byRoots 169 = .ok (.istore 4, 2) := by decide +kernel
theorem d_Mo_byRoots_171 : decode c_Mo_byRoots 171 = .ok (.iinc 5 1, 3) := by decide +kernel
theorem d_Mo_byRoots_174 : decode c_Mo_byRoots 174 = .ok (.iinc 6 1, 3) := by decide +kernel
theorem d_Mo_byRoots_177 : decode c_Mo_byRoots 177 = .ok (.goto (-54), 3) := by decide +kernel
theorem d_Mo_byRoots_180 : decode c_Mo_byRoots 180 = .ok (.iload 4, 2) := by decide +kernel
theorem d_Mo_byRoots_182 : decode c_Mo_byRoots 182 = .ok (.ifCond .eq 8, 3) := by decide +kernel
theorem d_Mo_byRoots_185 : decode c_Mo_byRoots 185 = .ok (.iload 4, 2) := by decide +kernel
theorem d_Mo_byRoots_187 : decode c_Mo_byRoots 187 = .ok (.goto 14, 3) := by decide +kernel
theorem d_Mo_byRoots_190 : decode c_Mo_byRoots 190 = .ok (.aload_n 0, 1) := by decide +kernel
theorem d_Mo_byRoots_191 : decode c_Mo_byRoots 191 = .ok (.getfield 26, 3) := by decide +kernel
theorem d_Mo_byRoots_194 : decode c_Mo_byRoots 194 = .ok (.aload_n 0, 1) := by decide +kernel
theorem d_Mo_byRoots_195 : decode c_Mo_byRoots 195 = .ok (.getfield 175, 3) := by decide +kernel
theorem d_Mo_byRoots_198 : decode c_Mo_byRoots 198 = .ok (.invokestatic 162, 3) := by decide +kernel
theorem d_Mo_byRoots_201 : decode c_Mo_byRoots 201 = .ok (.ireturn, 1) := by decide +kernel
set_option maxRecDepth 20000 in
theorem w_Mo_byRoots_180 {X : HX} {ad : Nat → Nat} {I : HI} {J : HJ} {N : HN} {r : HI × HJ × Int32} {a0 : Nat} {p1 : Int32} {x4 : Int32} (C : Cx X c_Mo_byRoots RX11 7 (some .int) rm_Mo_byRoots) (ha0 : gk Tm nM a0 (0, 11))
    (h : Mo_byRoots_180 N a0 p1 I J x4 = some r) : G Tm X ad nM 0 0 I J N (gE X Tm ad nM (r.1, r.2.1, N, fun _ => some (.int r.2.2))) 180 7 [(0, .ref (ad a0)), (4, .int x4)] [] := by
  refine g_iload (pc := 180) C d_Mo_byRoots_180 1 rfl ?_
  refine g_if_eq (pc := 182) C 190 d_Mo_byRoots_182 rfl (fun e1 => ?_) (fun e1 => ?_)
  · have h := o_pos e1 h
    refine g_aload_n (pc := 190) C d_Mo_byRoots_190 rfl 0 rfl ?_
    obtain ⟨b2, hnb2, hb2, h⟩ := o_ra h
    refine g_get (pc := 191) (k := 7) (v := va_rf ((N a0 7).map ad)) C gcX11 inX11 (by decide) fl_Mo_26 ha0 rfl d_Mo_byRoots_191 ?_
    refine g_top (g_rf hnb2) ?_
    refine g_aload_n (pc := 194) C d_Mo_byRoots_194 rfl 0 rfl ?_
    refine g_get (pc := 195) (k := 8) (v := .int (I a0 8)) C gcX11 inX11 (by decide) fl_Mo_175 ha0 rfl d_Mo_byRoots_195 ?_
    obtain ⟨r3, hc4, h⟩ := o_bn1 h
    refine g_S (pc := 198) (rest := []) C (k_Mo_valuesIn (xl X) hb2 hc4) sm_Mo_valuesIn ml_Mo_162 st_Mo_valuesIn ⟨rfl, rfl, Nat.le_of_ble_eq_true rfl, Nat.le_of_ble_eq_true rfl⟩ ⟨Nat.zero_le _, Nat.zero_le _⟩ rfl rfl (Nat.le_of_ble_eq_true rfl) d_Mo_byRoots_198 [.int r3] rfl ?_
    obtain rfl := o_ret h
    exact g_iret (pc := 201) C d_Mo_byRoots_201
  · have h := o_neg e1 h
    refine g_iload (pc := 185) C d_Mo_byRoots_185 1 rfl ?_
    refine g_goto (pc := 187) C 201 d_Mo_byRoots_187 rfl ?_
    obtain rfl := o_ret h
    exact g_iret (pc := 201) C d_Mo_byRoots_201
set_option maxRecDepth 20000 in
theorem w_Mo_byRoots_174 {X : HX} {ad : Nat → Nat} {I : HI} {J : HJ} {N : HN} {r : HI × HJ × Int32} {k123 : HI → HJ → Int32 → Int32 → Int32 → Option (HI × HJ × Int32)} {a0 : Nat} {p1 : Int32} {x4 : Int32} {x5 : Int32} {x6 : Int32} (C : Cx X c_Mo_byRoots RX11 7 (some .int) rm_Mo_byRoots) (ha0 : gk Tm nM a0 (0, 11))
    (hk123 : ∀ (I : HI) (J : HJ) (x4 : Int32) (x5 : Int32) (x6 : Int32), k123 I J x4 x5 x6 = some r → G Tm X ad nM 0 0 I J N (gE X Tm ad nM (r.1, r.2.1, N, fun _ => some (.int r.2.2))) 123 7 [(0, .ref (ad a0)), (1, .int p1), (4, .int x4), (5, .int x5), (6, .int x6)] [])
    (h : Mo_byRoots_174 N a0 p1 k123 I J x4 x5 x6 = some r) : G Tm X ad nM 0 0 I J N (gE X Tm ad nM (r.1, r.2.1, N, fun _ => some (.int r.2.2))) 174 7 [(0, .ref (ad a0)), (1, .int p1), (4, .int x4), (5, .int x5), (6, .int x6)] [] := by
  refine g_iinc (pc := 174) (q := 4) (lv' := [(6, .int (x6 + 1)), (0, .ref (ad a0)), (1, .int p1), (4, .int x4), (5, .int x5)]) C d_Mo_byRoots_174 rfl rfl (by decide) rfl ?_
  refine g_goto (pc := 177) C 123 d_Mo_byRoots_177 rfl ?_
  refine g_lv [1, 2, 3, 4, 0] rfl ?_
  exact hk123 _ _ _ _ _ h
set_option maxRecDepth 20000 in
theorem w_Mo_byRoots_123b {X : HX} {ad : Nat → Nat} {I : HI} {J : HJ} {N : HN} {r : HI × HJ × Int32} {k123 : HI → HJ → Int32 → Int32 → Int32 → Option (HI × HJ × Int32)} {a0 : Nat} {p1 : Int32} {x4 : Int32} {x5 : Int32} {x6 : Int32} (C : Cx X c_Mo_byRoots RX11 7 (some .int) rm_Mo_byRoots) (ha0 : gk Tm nM a0 (0, 11))
    (hk123 : ∀ (I : HI) (J : HJ) (x4 : Int32) (x5 : Int32) (x6 : Int32), k123 I J x4 x5 x6 = some r → G Tm X ad nM 0 0 I J N (gE X Tm ad nM (r.1, r.2.1, N, fun _ => some (.int r.2.2))) 123 7 [(0, .ref (ad a0)), (1, .int p1), (4, .int x4), (5, .int x5), (6, .int x6)] [])
    (h : Mo_byRoots_123b N a0 p1 k123 I J x4 x5 x6 = some r) : G Tm X ad nM 0 0 I J N (gE X Tm ad nM (r.1, r.2.1, N, fun _ => some (.int r.2.2))) 123 7 [(0, .ref (ad a0)), (1, .int p1), (4, .int x4), (5, .int x5), (6, .int x6)] [] := by
  refine g_iload (pc := 123) C d_Mo_byRoots_123 4 rfl ?_
  refine g_aload_n (pc := 125) C d_Mo_byRoots_125 rfl 0 rfl ?_
  refine g_get (pc := 126) (k := 21) (v := .int (I a0 21)) C gcX11 inX11 (by decide) fl_Mo_221 ha0 rfl d_Mo_byRoots_126 ?_
  refine g_icmp_ge (pc := 129) C 180 d_Mo_byRoots_129 rfl (fun e1 => ?_) (fun e1 => ?_)
  · have h := o_pos e1 h
    refine g_lv [0, 2] rfl ?_
    exact w_Mo_byRoots_180 C ha0 h
  · have h := o_neg e1 h
    refine g_iload (pc := 132) C d_Mo_byRoots_132 2 rfl ?_
    refine g_if_ne (pc := 134) C 180 d_Mo_byRoots_134 rfl (fun e2 => ?_) (fun e2 => ?_)
    · have h := o_neg e2 h
      refine g_lv [0, 2] rfl ?_
      exact w_Mo_byRoots_180 C ha0 h
    · have h := o_pos e2 h
      refine g_aload_n (pc := 137) C d_Mo_byRoots_137 rfl 0 rfl ?_
      refine g_iload (pc := 138) C d_Mo_byRoots_138 4 rfl ?_
      obtain ⟨r3, hc4, h⟩ := o_bn1 h
      refine g_V (pc := 140) (rest := []) C (k_Mo_isRoot (xl X) ha0 hc4) sm_Mo_isRoot ml_Mo_251 im_Mo_isRoot se_Mo_isRoot gcX11 rfl ha0 ⟨rfl, rfl, Nat.le_of_ble_eq_true rfl, Nat.le_of_ble_eq_true rfl⟩ ⟨Nat.zero_le _, Nat.zero_le _⟩ rfl rfl (Nat.le_of_ble_eq_true rfl) d_Mo_byRoots_140 [.int r3] rfl ?_
      refine g_if_eq (pc := 143) C 174 d_Mo_byRoots_143 rfl (fun e5 => ?_) (fun e5 => ?_)
      · have h := o_pos e5 h
        refine g_lv [0, 1, 2, 3, 4] rfl ?_
        exact w_Mo_byRoots_174 C ha0 hk123 h
      · have h := o_neg e5 h
        refine g_aload_n (pc := 146) C d_Mo_byRoots_146 rfl 0 rfl ?_
        refine g_iload_n (pc := 147) C d_Mo_byRoots_147 rfl 1 rfl ?_
        refine g_iload (pc := 148) C d_Mo_byRoots_148 3 rfl ?_
        refine g_aload_n (pc := 150) C d_Mo_byRoots_150 rfl 0 rfl ?_
        obtain ⟨b6, hnb6, hb6, h⟩ := o_ra h
        refine g_get (pc := 151) (k := 19) (v := va_rf ((N a0 19).map ad)) C gcX11 inX11 (by decide) fl_Mo_47 ha0 rfl d_Mo_byRoots_151 ?_
        refine g_top (g_rf hnb6) ?_
        refine g_iload (pc := 154) C d_Mo_byRoots_154 4 rfl ?_
        obtain ⟨hi7, h⟩ := o_gd h
        refine g_iald (pc := 156) C hb6 hi7 d_Mo_byRoots_156 ?_
        refine g_i2l (pc := 157) C d_Mo_byRoots_157 ?_
        refine g_aload_n (pc := 158) C d_Mo_byRoots_158 rfl 0 rfl ?_
        obtain ⟨b8, hnb8, hb8, h⟩ := o_ra h
        refine g_get (pc := 159) (k := 20) (v := va_rf ((N a0 20).map ad)) C gcX11 inX11 (by decide) fl_Mo_50 ha0 rfl d_Mo_byRoots_159 ?_
        refine g_top (g_rf hnb8) ?_
        refine g_iload (pc := 162) C d_Mo_byRoots_162 4 rfl ?_
        obtain ⟨hi9, h⟩ := o_gd h
        refine g_iald (pc := 164) C hb8 hi9 d_Mo_byRoots_164 ?_
        refine g_i2l (pc := 165) C d_Mo_byRoots_165 ?_
        obtain ⟨I10, J11, r12, hc13, h⟩ := o_bn3 h
        refine g_V (pc := 166) (rest := []) C (k_Mo_rootOnce (xl X) ha0 hc13) sm_Mo_rootOnce ml_Mo_254 im_Mo_rootOnce se_Mo_rootOnce gcX11 rfl ha0 ⟨rfl, rfl, Nat.le_of_ble_eq_true rfl, Nat.le_of_ble_eq_true rfl⟩ ⟨Nat.zero_le _, Nat.zero_le _⟩ rfl rfl (Nat.le_of_ble_eq_true rfl) d_Mo_byRoots_166 [.int r12] rfl ?_
        refine g_istore (pc := 169) (lv' := [(4, .int r12), (0, .ref (ad a0)), (1, .int p1), (5, .int x5), (6, .int x6)]) C d_Mo_byRoots_169 (by decide) rfl ?_
        refine g_iinc (pc := 171) (q := 3) (lv' := [(5, .int (x5 + 1)), (4, .int r12), (0, .ref (ad a0)), (1, .int p1), (6, .int x6)]) C d_Mo_byRoots_171 rfl rfl (by decide) rfl ?_
        refine g_lv [2, 3, 1, 0, 4] rfl ?_
        exact w_Mo_byRoots_174 C ha0 hk123 h
set_option maxRecDepth 20000 in
theorem w_Mo_byRoots_123 {X : HX} {ad : Nat → Nat} {N : HN} {r : HI × HJ × Int32} {a0 : Nat} {p1 : Int32} (C : Cx X c_Mo_byRoots RX11 7 (some .int) rm_Mo_byRoots) (ha0 : gk Tm nM a0 (0, 11)) : ∀ (n : Nat) (I : HI) (J : HJ) (x4 : Int32) (x5 : Int32) (x6 : Int32), Mo_byRoots_123 N a0 p1 n I J x4 x5 x6 = some r → G Tm X ad nM 0 0 I J N (gE X Tm ad nM (r.1, r.2.1, N, fun _ => some (.int r.2.2))) 123 7 [(0, .ref (ad a0)), (1, .int p1), (4, .int x4), (5, .int x5), (6, .int x6)] [] := by
  intro n
  induction n with
  | zero => intro I J x4 x5 x6 h; cases h
  | succ n ih => intro I J x4 x5 x6 h; exact w_Mo_byRoots_123b C ha0 ih h
set_option maxRecDepth 20000 in
theorem w_Mo_byRoots_91 {X : HX} {ad : Nat → Nat} {I : HI} {J : HJ} {N : HN} {r : HI × HJ × Int32} {a0 : Nat} {p1 : Int32} (C : Cx X c_Mo_byRoots RX11 7 (some .int) rm_Mo_byRoots) (ha0 : gk Tm nM a0 (0, 11))
    (h : Mo_byRoots_91 N a0 p1 I J = some r) : G Tm X ad nM 0 0 I J N (gE X Tm ad nM (r.1, r.2.1, N, fun _ => some (.int r.2.2))) 91 7 [(0, .ref (ad a0)), (1, .int p1)] [] := by
  refine g_aload_n (pc := 91) C d_Mo_byRoots_91 rfl 0 rfl ?_
  obtain ⟨J1, r2, hc3, h⟩ := o_bn2 h
  refine g_V (pc := 92) (rest := []) C (k_Mo_isDark (xl X) ha0 hc3) sm_Mo_isDark ml_Mo_242 im_Mo_isDark se_Mo_isDark gcX11 rfl ha0 ⟨rfl, rfl, Nat.le_of_ble_eq_true rfl, Nat.le_of_ble_eq_true rfl⟩ ⟨Nat.zero_le _, Nat.zero_le _⟩ rfl rfl (Nat.le_of_ble_eq_true rfl) d_Mo_byRoots_92 [.int r2] rfl ?_
  refine g_if_eq (pc := 95) C 101 d_Mo_byRoots_95 rfl (fun e4 => ?_) (fun e4 => ?_)
  · have h := o_pos e4 h
    refine g_aload_n (pc := 101) C d_Mo_byRoots_101 rfl 0 rfl ?_
    refine g_iconst (pc := 102) C (0 : Int32) d_Mo_byRoots_102 (by decide) ?_
    refine g_put (pc := 103) (I' := up2 I a0 8 (0 : Int32)) (J' := J1) (N' := N) (k := 8) C gcX11 inX11 tyX11_ok nmX11 (by decide) fl_Mo_175 rfl ha0 (tyX11_ok 8 (by decide)) rfl rfl (Nat.le_of_ble_eq_true rfl) gs_11_8 (fun b hb => up2_of hb) (fun _ _ => rfl) (fun _ _ => rfl) d_Mo_byRoots_103 ?_
    obtain ⟨I5, eI5, h⟩ := o_bd h
    rw [← eI5]
    refine g_aload_n (pc := 106) C d_Mo_byRoots_106 rfl 0 rfl ?_
    refine g_iload_n (pc := 107) C d_Mo_byRoots_107 rfl 1 rfl ?_
    obtain ⟨I6, J7, r8, hc9, h⟩ := o_bn3 h
    refine g_V (pc := 108) (rest := []) C (k_Mo_ends (xl X) ha0 hc9) sm_Mo_ends ml_Mo_245 im_Mo_ends se_Mo_ends gcX11 rfl ha0 ⟨rfl, rfl, Nat.le_of_ble_eq_true rfl, Nat.le_of_ble_eq_true rfl⟩ ⟨Nat.zero_le _, Nat.zero_le _⟩ rfl rfl (Nat.le_of_ble_eq_true rfl) d_Mo_byRoots_108 [.int r8] rfl ?_
    refine g_istore (pc := 111) (lv' := [(4, .int r8), (0, .ref (ad a0)), (1, .int p1)]) C d_Mo_byRoots_111 (by decide) rfl ?_
    refine g_aload_n (pc := 113) C d_Mo_byRoots_113 rfl 1 rfl ?_
    obtain ⟨J10, hc11, h⟩ := o_bn1 h
    refine g_V (pc := 114) (rest := []) C (k_Mo_slopes (xl X) ha0 hc11) sm_Mo_slopes ml_Mo_248 im_Mo_slopes se_Mo_slopes gcX11 rfl ha0 ⟨rfl, rfl, Nat.le_of_ble_eq_true rfl, Nat.le_of_ble_eq_true rfl⟩ ⟨Nat.zero_le _, Nat.zero_le _⟩ rfl rfl (Nat.le_of_ble_eq_true rfl) d_Mo_byRoots_114 [] rfl ?_
    refine g_iconst (pc := 117) C (2 : Int32) d_Mo_byRoots_117 (by decide) ?_
    refine g_istore (pc := 118) (lv' := [(5, .int (2 : Int32)), (4, .int r8), (0, .ref (ad a0)), (1, .int p1)]) C d_Mo_byRoots_118 (by decide) rfl ?_
    refine g_iconst (pc := 120) C (0 : Int32) d_Mo_byRoots_120 (by decide) ?_
    refine g_istore (pc := 121) (lv' := [(6, .int (0 : Int32)), (5, .int (2 : Int32)), (4, .int r8), (0, .ref (ad a0)), (1, .int p1)]) C d_Mo_byRoots_121 (by decide) rfl ?_
    refine g_lv [3, 4, 2, 1, 0] rfl ?_
    exact w_Mo_byRoots_123 C ha0 _ _ _ _ _ _ h
  · have h := o_neg e4 h
    refine g_bipush (pc := 98) C (-6 : Int32) d_Mo_byRoots_98 (by decide) ?_
    obtain rfl := o_ret h
    exact g_iret (pc := 100) C d_Mo_byRoots_100
set_option maxRecDepth 20000 in
theorem w_Mo_byRoots_52b {X : HX} {ad : Nat → Nat} {I : HI} {J : HJ} {N : HN} {r : HI × HJ × Int32} {k52 : HI → HJ → Option (HI × HJ × Int32)} {a0 : Nat} {p1 : Int32} (C : Cx X c_Mo_byRoots RX11 7 (some .int) rm_Mo_byRoots) (ha0 : gk Tm nM a0 (0, 11))
    (hk52 : ∀ (I : HI) (J : HJ), k52 I J = some r → G Tm X ad nM 0 0 I J N (gE X Tm ad nM (r.1, r.2.1, N, fun _ => some (.int r.2.2))) 52 7 [(0, .ref (ad a0)), (1, .int p1)] [])
    (h : Mo_byRoots_52b N a0 p1 k52 I J = some r) : G Tm X ad nM 0 0 I J N (gE X Tm ad nM (r.1, r.2.1, N, fun _ => some (.int r.2.2))) 52 7 [(0, .ref (ad a0)), (1, .int p1)] [] := by
  refine g_aload_n (pc := 52) C d_Mo_byRoots_52 rfl 0 rfl ?_
  obtain ⟨b1, hnb1, hb1, h⟩ := o_ra h
  refine g_get (pc := 53) (k := 15) (v := va_rf ((N a0 15).map ad)) C gcX11 inX11 (by decide) fl_Mo_35 ha0 rfl d_Mo_byRoots_53 ?_
  refine g_top (g_rf hnb1) ?_
  refine g_iconst (pc := 56) C (0 : Int32) d_Mo_byRoots_56 (by decide) ?_
  obtain ⟨hi2, h⟩ := o_gd h
  refine g_lald (pc := 57) C hb1 hi2 d_Mo_byRoots_57 ?_
  refine g_lconst (pc := 58) C (0 : Int64) d_Mo_byRoots_58 (by decide) ?_
  refine g_lcmp_ne (pc := 59) C 91 d_Mo_byRoots_59 d_Mo_byRoots_60 rfl (fun e3 => ?_) (fun e3 => ?_)
  · have h := o_neg e3 h
    refine g_lv [0, 1] rfl ?_
    exact w_Mo_byRoots_91 C ha0 h
  · have h := o_pos e3 h
    refine g_aload_n (pc := 63) C d_Mo_byRoots_63 rfl 0 rfl ?_
    obtain ⟨b4, hnb4, hb4, h⟩ := o_ra h
    refine g_get (pc := 64) (k := 16) (v := va_rf ((N a0 16).map ad)) C gcX11 inX11 (by decide) fl_Mo_38 ha0 rfl d_Mo_byRoots_64 ?_
    refine g_top (g_rf hnb4) ?_
    refine g_iconst (pc := 67) C (0 : Int32) d_Mo_byRoots_67 (by decide) ?_
    obtain ⟨hi5, h⟩ := o_gd h
    refine g_lald (pc := 68) C hb4 hi5 d_Mo_byRoots_68 ?_
    refine g_lconst (pc := 69) C (0 : Int64) d_Mo_byRoots_69 (by decide) ?_
    refine g_lcmp_ne (pc := 70) C 91 d_Mo_byRoots_70 d_Mo_byRoots_71 rfl (fun e6 => ?_) (fun e6 => ?_)
    · have h := o_neg e6 h
      refine g_lv [0, 1] rfl ?_
      exact w_Mo_byRoots_91 C ha0 h
    · have h := o_pos e6 h
      refine g_aload_n (pc := 74) C d_Mo_byRoots_74 rfl 0 rfl ?_
      obtain ⟨b7, hnb7, hb7, h⟩ := o_ra h
      refine g_get (pc := 75) (k := 15) (v := va_rf ((N a0 15).map ad)) C gcX11 inX11 (by decide) fl_Mo_35 ha0 rfl d_Mo_byRoots_75 ?_
      refine g_top (g_rf hnb7) ?_
      obtain ⟨J8, hc9, h⟩ := o_bn1 h
      refine g_S (pc := 78) (rest := []) C (k_Mo_downs (xl X) hb7 hc9) sm_Mo_downs ml_Mo_227 st_Mo_downs ⟨rfl, rfl, Nat.le_of_ble_eq_true rfl, Nat.le_of_ble_eq_true rfl⟩ ⟨Nat.zero_le _, Nat.zero_le _⟩ rfl rfl (Nat.le_of_ble_eq_true rfl) d_Mo_byRoots_78 [] rfl ?_
      refine g_aload_n (pc := 81) C d_Mo_byRoots_81 rfl 0 rfl ?_
      obtain ⟨b10, hnb10, hb10, h⟩ := o_ra h
      refine g_get (pc := 82) (k := 16) (v := va_rf ((N a0 16).map ad)) C gcX11 inX11 (by decide) fl_Mo_38 ha0 rfl d_Mo_byRoots_82 ?_
      refine g_top (g_rf hnb10) ?_
      obtain ⟨J11, hc12, h⟩ := o_bn1 h
      refine g_S (pc := 85) (rest := []) C (k_Mo_downs (xl X) hb10 hc12) sm_Mo_downs ml_Mo_227 st_Mo_downs ⟨rfl, rfl, Nat.le_of_ble_eq_true rfl, Nat.le_of_ble_eq_true rfl⟩ ⟨Nat.zero_le _, Nat.zero_le _⟩ rfl rfl (Nat.le_of_ble_eq_true rfl) d_Mo_byRoots_85 [] rfl ?_
      refine g_goto (pc := 88) C 52 d_Mo_byRoots_88 rfl ?_
      refine g_lv [0, 1] rfl ?_
      exact hk52 _ _ h
set_option maxRecDepth 20000 in
theorem w_Mo_byRoots_52 {X : HX} {ad : Nat → Nat} {N : HN} {r : HI × HJ × Int32} {a0 : Nat} {p1 : Int32} (C : Cx X c_Mo_byRoots RX11 7 (some .int) rm_Mo_byRoots) (ha0 : gk Tm nM a0 (0, 11)) : ∀ (n : Nat) (I : HI) (J : HJ), Mo_byRoots_52 N a0 p1 n I J = some r → G Tm X ad nM 0 0 I J N (gE X Tm ad nM (r.1, r.2.1, N, fun _ => some (.int r.2.2))) 52 7 [(0, .ref (ad a0)), (1, .int p1)] [] := by
  intro n
  induction n with
  | zero => intro I J h; cases h
  | succ n ih => intro I J h; exact w_Mo_byRoots_52b C ha0 ih h
set_option maxRecDepth 20000 in
theorem w_Mo_byRoots_29 {X : HX} {ad : Nat → Nat} {I : HI} {J : HJ} {N : HN} {r : HI × HJ × Int32} {a0 : Nat} {p1 : Int32} {x2 : Int32} {s0 : Int32} (C : Cx X c_Mo_byRoots RX11 7 (some .int) rm_Mo_byRoots) (ha0 : gk Tm nM a0 (0, 11))
    (h : Mo_byRoots_29 N a0 p1 I J x2 s0 = some r) : G Tm X ad nM 0 0 I J N (gE X Tm ad nM (r.1, r.2.1, N, fun _ => some (.int r.2.2))) 29 7 [(0, .ref (ad a0)), (1, .int p1), (2, .int x2)] [.int s0] := by
  refine g_istore_n (pc := 29) (lv' := [(3, .int s0), (0, .ref (ad a0)), (1, .int p1), (2, .int x2)]) C d_Mo_byRoots_29 rfl (by decide) rfl ?_
  refine g_aload_n (pc := 30) C d_Mo_byRoots_30 rfl 1 rfl ?_
  refine g_iload_n (pc := 31) C d_Mo_byRoots_31 rfl 3 rfl ?_
  refine g_iload_n (pc := 32) C d_Mo_byRoots_32 rfl 0 rfl ?_
  refine g_aload_n (pc := 33) C d_Mo_byRoots_33 rfl 1 rfl ?_
  obtain ⟨b1, hnb1, hb1, h⟩ := o_ra h
  refine g_get (pc := 34) (k := 15) (v := va_rf ((N a0 15).map ad)) C gcX11 inX11 (by decide) fl_Mo_35 ha0 rfl d_Mo_byRoots_34 ?_
  refine g_top (g_rf hnb1) ?_
  obtain ⟨J2, hc3, h⟩ := o_bn1 h
  refine g_V (pc := 37) (rest := []) C (k_Mo_squares (xl X) ha0 hb1 hc3) sm_Mo_squares ml_Mo_238 im_Mo_squares se_Mo_squares gcX11 rfl ha0 ⟨rfl, rfl, Nat.le_of_ble_eq_true rfl, Nat.le_of_ble_eq_true rfl⟩ ⟨Nat.zero_le _, Nat.zero_le _⟩ rfl rfl (Nat.le_of_ble_eq_true rfl) d_Mo_byRoots_37 [] rfl ?_
  refine g_aload_n (pc := 40) C d_Mo_byRoots_40 rfl 1 rfl ?_
  refine g_iconst (pc := 41) C (1 : Int32) d_Mo_byRoots_41 (by decide) ?_
  refine g_iload_n (pc := 42) C d_Mo_byRoots_42 rfl 3 rfl ?_
  refine g_isub (pc := 43) C d_Mo_byRoots_43 ?_
  refine g_iconst (pc := 44) C (0 : Int32) d_Mo_byRoots_44 (by decide) ?_
  refine g_aload_n (pc := 45) C d_Mo_byRoots_45 rfl 1 rfl ?_
  obtain ⟨b4, hnb4, hb4, h⟩ := o_ra h
  refine g_get (pc := 46) (k := 16) (v := va_rf ((N a0 16).map ad)) C gcX11 inX11 (by decide) fl_Mo_38 ha0 rfl d_Mo_byRoots_46 ?_
  refine g_top (g_rf hnb4) ?_
  obtain ⟨J5, hc6, h⟩ := o_bn1 h
  refine g_V (pc := 49) (rest := []) C (k_Mo_squares (xl X) ha0 hb4 hc6) sm_Mo_squares ml_Mo_238 im_Mo_squares se_Mo_squares gcX11 rfl ha0 ⟨rfl, rfl, Nat.le_of_ble_eq_true rfl, Nat.le_of_ble_eq_true rfl⟩ ⟨Nat.zero_le _, Nat.zero_le _⟩ rfl rfl (Nat.le_of_ble_eq_true rfl) d_Mo_byRoots_49 [] rfl ?_
  refine g_lv [1, 2] rfl ?_
  exact w_Mo_byRoots_52 C ha0 _ _ _ h
set_option maxRecDepth 20000 in
theorem w_Mo_byRoots_14 {X : HX} {ad : Nat → Nat} {I : HI} {J : HJ} {N : HN} {r : HI × HJ × Int32} {a0 : Nat} {p1 : Int32} {s0 : Int32} (C : Cx X c_Mo_byRoots RX11 7 (some .int) rm_Mo_byRoots) (ha0 : gk Tm nM a0 (0, 11))
    (h : Mo_byRoots_14 N a0 p1 I J s0 = some r) : G Tm X ad nM 0 0 I J N (gE X Tm ad nM (r.1, r.2.1, N, fun _ => some (.int r.2.2))) 14 7 [(0, .ref (ad a0)), (1, .int p1)] [.int s0] := by
  refine g_istore_n (pc := 14) (lv' := [(2, .int s0), (0, .ref (ad a0)), (1, .int p1)]) C d_Mo_byRoots_14 rfl (by decide) rfl ?_
  refine g_aload_n (pc := 15) C d_Mo_byRoots_15 rfl 1 rfl ?_
  refine g_iload_n (pc := 16) C d_Mo_byRoots_16 rfl 0 rfl ?_
  obtain ⟨r1, hc2, h⟩ := o_bn1 h
  refine g_V (pc := 17) (rest := []) C (k_Mo_sort (xl X) ha0 hc2) sm_Mo_sort ml_Mo_121 im_Mo_sort se_Mo_sort gcX11 rfl ha0 ⟨rfl, rfl, Nat.le_of_ble_eq_true rfl, Nat.le_of_ble_eq_true rfl⟩ ⟨Nat.zero_le _, Nat.zero_le _⟩ rfl rfl (Nat.le_of_ble_eq_true rfl) d_Mo_byRoots_17 [.int r1] rfl ?_
  refine g_iconst (pc := 20) C (1 : Int32) d_Mo_byRoots_20 (by decide) ?_
  refine g_icmp_ne (pc := 21) C 28 d_Mo_byRoots_21 rfl (fun e3 => ?_) (fun e3 => ?_)
  · have h := o_neg e3 h
    refine g_iconst (pc := 28) C (0 : Int32) d_Mo_byRoots_28 (by decide) ?_
    refine g_lv [1, 2, 0] rfl ?_
    exact w_Mo_byRoots_29 C ha0 h
  · have h := o_pos e3 h
    refine g_iconst (pc := 24) C (1 : Int32) d_Mo_byRoots_24 (by decide) ?_
    refine g_goto (pc := 25) C 29 d_Mo_byRoots_25 rfl ?_
    refine g_lv [1, 2, 0] rfl ?_
    exact w_Mo_byRoots_29 C ha0 h
set_option maxRecDepth 20000 in
theorem w_Mo_byRoots_0 {X : HX} {ad : Nat → Nat} {I : HI} {J : HJ} {N : HN} {r : HI × HJ × Int32} {a0 : Nat} {p1 : Int32} (C : Cx X c_Mo_byRoots RX11 7 (some .int) rm_Mo_byRoots) (ha0 : gk Tm nM a0 (0, 11))
    (h : Mo_byRoots_0 N a0 p1 I J = some r) : G Tm X ad nM 0 0 I J N (gE X Tm ad nM (r.1, r.2.1, N, fun _ => some (.int r.2.2))) 0 7 [(0, .ref (ad a0)), (1, .int p1)] [] := by
  refine g_aload_n (pc := 0) C d_Mo_byRoots_0 rfl 0 rfl ?_
  obtain ⟨I1, hc2, h⟩ := o_bn1 h
  refine g_V (pc := 1) (rest := []) C (k_Mo_candidates (xl X) ha0 hc2) sm_Mo_candidates ml_Mo_235 im_Mo_candidates se_Mo_candidates gcX11 rfl ha0 ⟨rfl, rfl, Nat.le_of_ble_eq_true rfl, Nat.le_of_ble_eq_true rfl⟩ ⟨Nat.zero_le _, Nat.zero_le _⟩ rfl rfl (Nat.le_of_ble_eq_true rfl) d_Mo_byRoots_1 [] rfl ?_
  refine g_iload_n (pc := 4) C d_Mo_byRoots_4 rfl 1 rfl ?_
  refine g_iconst (pc := 5) C (2 : Int32) d_Mo_byRoots_5 (by decide) ?_
  refine g_icmp_ne (pc := 6) C 13 d_Mo_byRoots_6 rfl (fun e3 => ?_) (fun e3 => ?_)
  · have h := o_neg e3 h
    refine g_iconst (pc := 13) C (1 : Int32) d_Mo_byRoots_13 (by decide) ?_
    refine g_lv [0, 1] rfl ?_
    exact w_Mo_byRoots_14 C ha0 h
  · have h := o_pos e3 h
    refine g_iconst (pc := 9) C (0 : Int32) d_Mo_byRoots_9 (by decide) ?_
    refine g_goto (pc := 10) C 14 d_Mo_byRoots_10 rfl ?_
    refine g_lv [0, 1] rfl ?_
    exact w_Mo_byRoots_14 C ha0 h
set_option maxRecDepth 20000 in
theorem k_Mo_byRoots (l : Launch) {I : HI} {J : HJ} {N : HN} {a0 : Nat} {p1 : Int32} {r : HI × HJ × Int32} (ha0 : gk Tm nM a0 (0, 11)) (h : Mo_byRoots N a0 p1 I J = some r) : gM l y_Mo_byRoots c_Mo_byRoots 7 (some .int) rm_Mo_byRoots Tm nM I J N (fun ad => [.ref (ad a0), .int p1]) (r.1, r.2.1, N, fun _ => some (.int r.2.2)) :=
  g_meth (lv := fun ad => [(0, .ref (ad a0)), (1, .int p1)]) (by decide) (fun _ => Nat.le_of_ble_eq_true rfl) (fun _ => rfl) (fun X ad C => g_lv [0, 1] rfl (w_Mo_byRoots_0 C ha0 h))
theorem d_Mo_unfolds_0 : decode c_Mo_unfolds 0 = .ok (.aload_n 0, 1) := by decide +kernel
theorem d_Mo_unfolds_1 : decode c_Mo_unfolds 1 = .ok (.invokevirtual 124, 3) := by decide +kernel
theorem d_Mo_unfolds_4 : decode c_Mo_unfolds 4 = .ok (.ifCond .ne 6, 3) := by decide +kernel
theorem d_Mo_unfolds_7 : decode c_Mo_unfolds 7 = .ok (.bipush (-3), 2) := by decide +kernel
theorem d_Mo_unfolds_9 : decode c_Mo_unfolds 9 = .ok (.ireturn, 1) := by decide +kernel
theorem d_Mo_unfolds_10 : decode c_Mo_unfolds 10 = .ok (.iload_n 1, 1) := by decide +kernel
theorem d_Mo_unfolds_11 : decode c_Mo_unfolds 11 = .ok (.iconst 2, 1) := by decide +kernel
theorem d_Mo_unfolds_12 : decode c_Mo_unfolds 12 = .ok (.if_icmp .ge 11, 3) := by decide +kernel
theorem d_Mo_unfolds_15 : decode c_Mo_unfolds 15 = .ok (.aload_n 0, 1) := by decide +kernel
theorem d_Mo_unfolds_16 : decode c_Mo_unfolds 16 = .ok (.iload_n 1, 1) := by decide +kernel
theorem d_Mo_unfolds_17 : decode c_Mo_unfolds 17 = .ok (.invokevirtual 262, 3) := by decide +kernel
theorem d_Mo_unfolds_20 : decode c_Mo_unfolds 20 = .ok (.goto 8, 3) := by decide +kernel
theorem d_Mo_unfolds_23 : decode c_Mo_unfolds 23 = .ok (.aload_n 0, 1) := by decide +kernel
theorem d_Mo_unfolds_24 : decode c_Mo_unfolds 24 = .ok (.iload_n 1, 1) := by decide +kernel
theorem d_Mo_unfolds_25 : decode c_Mo_unfolds 25 = .ok (.invokevirtual 265, 3) := by decide +kernel
theorem d_Mo_unfolds_28 : decode c_Mo_unfolds 28 = .ok (.ireturn, 1) := by decide +kernel
set_option maxRecDepth 20000 in
theorem w_Mo_unfolds_0 {X : HX} {ad : Nat → Nat} {I : HI} {J : HJ} {N : HN} {r : HI × HJ × Int32} {a0 : Nat} {p1 : Int32} (C : Cx X c_Mo_unfolds RX11 2 (some .int) rm_Mo_unfolds) (ha0 : gk Tm nM a0 (0, 11))
    (h : Mo_unfolds_0 N a0 p1 I J = some r) : G Tm X ad nM 0 0 I J N (gE X Tm ad nM (r.1, r.2.1, N, fun _ => some (.int r.2.2))) 0 2 [(0, .ref (ad a0)), (1, .int p1)] [] := by
  refine g_aload_n (pc := 0) C d_Mo_unfolds_0 rfl 0 rfl ?_
  obtain ⟨r1, hc2, h⟩ := o_bn1 h
  refine g_V (pc := 1) (rest := []) C (k_Mo_isLawful (xl X) ha0 hc2) sm_Mo_isLawful ml_Mo_124 im_Mo_isLawful se_Mo_isLawful gcX11 rfl ha0 ⟨rfl, rfl, Nat.le_of_ble_eq_true rfl, Nat.le_of_ble_eq_true rfl⟩ ⟨Nat.zero_le _, Nat.zero_le _⟩ rfl rfl (Nat.le_of_ble_eq_true rfl) d_Mo_unfolds_1 [.int r1] rfl ?_
  refine g_if_ne (pc := 4) C 10 d_Mo_unfolds_4 rfl (fun e3 => ?_) (fun e3 => ?_)
  · have h := o_neg e3 h
    refine g_iload_n (pc := 10) C d_Mo_unfolds_10 rfl 1 rfl ?_
    refine g_iconst (pc := 11) C (2 : Int32) d_Mo_unfolds_11 (by decide) ?_
    refine g_icmp_ge (pc := 12) C 23 d_Mo_unfolds_12 rfl (fun e4 => ?_) (fun e4 => ?_)
    · have h := o_pos e4 h
      refine g_aload_n (pc := 23) C d_Mo_unfolds_23 rfl 0 rfl ?_
      refine g_iload_n (pc := 24) C d_Mo_unfolds_24 rfl 1 rfl ?_
      obtain ⟨I5, J6, r7, hc8, h⟩ := o_bn3 h
      refine g_V (pc := 25) (rest := []) C (k_Mo_byRoots (xl X) ha0 hc8) sm_Mo_byRoots ml_Mo_265 im_Mo_byRoots se_Mo_byRoots gcX11 rfl ha0 ⟨rfl, rfl, Nat.le_of_ble_eq_true rfl, Nat.le_of_ble_eq_true rfl⟩ ⟨Nat.zero_le _, Nat.zero_le _⟩ rfl rfl (Nat.le_of_ble_eq_true rfl) d_Mo_unfolds_25 [.int r7] rfl ?_
      obtain rfl := o_ret h
      exact g_iret (pc := 28) C d_Mo_unfolds_28
    · have h := o_neg e4 h
      refine g_aload_n (pc := 15) C d_Mo_unfolds_15 rfl 0 rfl ?_
      refine g_iload_n (pc := 16) C d_Mo_unfolds_16 rfl 1 rfl ?_
      obtain ⟨I9, J10, r11, hc12, h⟩ := o_bn3 h
      refine g_V (pc := 17) (rest := []) C (k_Mo_divides (xl X) ha0 hc12) sm_Mo_divides ml_Mo_262 im_Mo_divides se_Mo_divides gcX11 rfl ha0 ⟨rfl, rfl, Nat.le_of_ble_eq_true rfl, Nat.le_of_ble_eq_true rfl⟩ ⟨Nat.zero_le _, Nat.zero_le _⟩ rfl rfl (Nat.le_of_ble_eq_true rfl) d_Mo_unfolds_17 [.int r11] rfl ?_
      refine g_goto (pc := 20) C 28 d_Mo_unfolds_20 rfl ?_
      obtain rfl := o_ret h
      exact g_iret (pc := 28) C d_Mo_unfolds_28
  · have h := o_pos e3 h
    refine g_bipush (pc := 7) C (-3 : Int32) d_Mo_unfolds_7 (by decide) ?_
    obtain rfl := o_ret h
    exact g_iret (pc := 9) C d_Mo_unfolds_9
set_option maxRecDepth 20000 in
theorem k_Mo_unfolds (l : Launch) {I : HI} {J : HJ} {N : HN} {a0 : Nat} {p1 : Int32} {r : HI × HJ × Int32} (ha0 : gk Tm nM a0 (0, 11)) (h : Mo_unfolds N a0 p1 I J = some r) : gM l y_Mo_unfolds c_Mo_unfolds 2 (some .int) rm_Mo_unfolds Tm nM I J N (fun ad => [.ref (ad a0), .int p1]) (r.1, r.2.1, N, fun _ => some (.int r.2.2)) :=
  g_meth (lv := fun ad => [(0, .ref (ad a0)), (1, .int p1)]) (by decide) (fun _ => Nat.le_of_ble_eq_true rfl) (fun _ => rfl) (fun X ad C => g_lv [0, 1] rfl (w_Mo_unfolds_0 C ha0 h))
theorem d_Mo_would_0 : decode c_Mo_would 0 = .ok (.iload_n 1, 1) := by decide +kernel
theorem d_Mo_would_1 : decode c_Mo_would 1 = .ok (.i2l, 1) := by decide +kernel
theorem d_Mo_would_2 : decode c_Mo_would 2 = .ok (.lconst 0, 1) := by decide +kernel
theorem d_Mo_would_3 : decode c_Mo_would 3 = .ok (.ldc2_w 268, 3) := by decide +kernel
theorem d_Mo_would_6 : decode c_Mo_would 6 = .ok (.invokestatic 83, 3) := by decide +kernel
theorem d_Mo_would_9 : decode c_Mo_would 9 = .ok (.ifCond .eq 11, 3) := by decide +kernel
theorem d_Mo_would_12 : decode c_Mo_would 12 = .ok (.aload_n 0, 1) := by decide +kernel
theorem d_Mo_would_13 : decode c_Mo_would 13 = .ok (.iload_n 1, 1) := by decide +kernel
theorem d_Mo_would_14 : decode c_Mo_would 14 = .ok (.invokevirtual 270, 3) := by decide +kernel
theorem d_Mo_would_17 : decode c_Mo_would 17 = .ok (.goto 5, 3) := by decide +kernel
theorem d_Mo_would_20 : decode c_Mo_would 20 = .ok (.bipush (-2), 2) := by decide +kernel
theorem d_Mo_would_22 : decode c_Mo_would 22 = .ok (.ireturn, 1) := by decide +kernel
set_option maxRecDepth 20000 in
theorem w_Mo_would_0 {X : HX} {ad : Nat → Nat} {I : HI} {J : HJ} {N : HN} {r : HI × HJ × Int32} {a0 : Nat} {p1 : Int32} (C : Cx X c_Mo_would RX11 2 (some .int) rm_Mo_would) (ha0 : gk Tm nM a0 (0, 11))
    (h : Mo_would_0 N a0 p1 I J = some r) : G Tm X ad nM 0 0 I J N (gE X Tm ad nM (r.1, r.2.1, N, fun _ => some (.int r.2.2))) 0 2 [(0, .ref (ad a0)), (1, .int p1)] [] := by
  refine g_iload_n (pc := 0) C d_Mo_would_0 rfl 1 rfl ?_
  refine g_i2l (pc := 1) C d_Mo_would_1 ?_
  refine g_lconst (pc := 2) C (0 : Int64) d_Mo_would_2 (by decide) ?_
  refine g_ldc2 (pc := 3) C kc_Mo_268 d_Mo_would_3 ?_
  obtain ⟨r1, hc2, h⟩ := o_bn1 h
  refine g_S (pc := 6) (rest := []) C (k_Mo_in (xl X)  hc2) sm_Mo_in ml_Mo_83 st_Mo_in ⟨rfl, rfl, Nat.le_of_ble_eq_true rfl, Nat.le_of_ble_eq_true rfl⟩ ⟨Nat.zero_le _, Nat.zero_le _⟩ rfl rfl (Nat.le_of_ble_eq_true rfl) d_Mo_would_6 [.int r1] rfl ?_
  refine g_if_eq (pc := 9) C 20 d_Mo_would_9 rfl (fun e3 => ?_) (fun e3 => ?_)
  · have h := o_pos e3 h
    refine g_bipush (pc := 20) C (-2 : Int32) d_Mo_would_20 (by decide) ?_
    obtain rfl := o_ret h
    exact g_iret (pc := 22) C d_Mo_would_22
  · have h := o_neg e3 h
    refine g_aload_n (pc := 12) C d_Mo_would_12 rfl 0 rfl ?_
    refine g_iload_n (pc := 13) C d_Mo_would_13 rfl 1 rfl ?_
    obtain ⟨I4, J5, r6, hc7, h⟩ := o_bn3 h
    refine g_V (pc := 14) (rest := []) C (k_Mo_unfolds (xl X) ha0 hc7) sm_Mo_unfolds ml_Mo_270 im_Mo_unfolds se_Mo_unfolds gcX11 rfl ha0 ⟨rfl, rfl, Nat.le_of_ble_eq_true rfl, Nat.le_of_ble_eq_true rfl⟩ ⟨Nat.zero_le _, Nat.zero_le _⟩ rfl rfl (Nat.le_of_ble_eq_true rfl) d_Mo_would_14 [.int r6] rfl ?_
    refine g_goto (pc := 17) C 22 d_Mo_would_17 rfl ?_
    obtain rfl := o_ret h
    exact g_iret (pc := 22) C d_Mo_would_22
set_option maxRecDepth 20000 in
theorem k_Mo_would (l : Launch) {I : HI} {J : HJ} {N : HN} {a0 : Nat} {p1 : Int32} {r : HI × HJ × Int32} (ha0 : gk Tm nM a0 (0, 11)) (h : Mo_would N a0 p1 I J = some r) : gM l y_Mo_would c_Mo_would 2 (some .int) rm_Mo_would Tm nM I J N (fun ad => [.ref (ad a0), .int p1]) (r.1, r.2.1, N, fun _ => some (.int r.2.2)) :=
  g_meth (lv := fun ad => [(0, .ref (ad a0)), (1, .int p1)]) (by decide) (fun _ => Nat.le_of_ble_eq_true rfl) (fun _ => rfl) (fun X ad C => g_lv [0, 1] rfl (w_Mo_would_0 C ha0 h))
theorem d_Mo_unfold_0 : decode c_Mo_unfold 0 = .ok (.iload_n 1, 1) := by decide +kernel
theorem d_Mo_unfold_1 : decode c_Mo_unfold 1 = .ok (.i2l, 1) := by decide +kernel
theorem d_Mo_unfold_2 : decode c_Mo_unfold 2 = .ok (.lconst 0, 1) := by decide +kernel
theorem d_Mo_unfold_3 : decode c_Mo_unfold 3 = .ok (.ldc2_w 268, 3) := by decide +kernel
theorem d_Mo_unfold_6 : decode c_Mo_unfold 6 = .ok (.invokestatic 83, 3) := by decide +kernel
theorem d_Mo_unfold_9 : decode c_Mo_unfold 9 = .ok (.ifCond .ne 6, 3) := by decide +kernel
theorem d_Mo_unfold_12 : decode c_Mo_unfold 12 = .ok (.bipush (-2), 2) := by decide +kernel
theorem d_Mo_unfold_14 : decode c_Mo_unfold 14 = .ok (.ireturn, 1) := by decide +kernel
theorem d_Mo_unfold_15 : decode c_Mo_unfold 15 = .ok (.aload_n 0, 1) := by decide +kernel
theorem d_Mo_unfold_16 : decode c_Mo_unfold 16 = .ok (.iload_n 1, 1) := by decide +kernel
theorem d_Mo_unfold_17 : decode c_Mo_unfold 17 = .ok (.invokevirtual 270, 3) := by decide +kernel
theorem d_Mo_unfold_20 : decode c_Mo_unfold 20 = .ok (.istore_n 2, 1) := by decide +kernel
theorem d_Mo_unfold_21 : decode c_Mo_unfold 21 = .ok (.iload_n 2, 1) := by decide +kernel
theorem d_Mo_unfold_22 : decode c_Mo_unfold 22 = .ok (.ifCond .ge 5, 3) := by decide +kernel
theorem d_Mo_unfold_25 : decode c_Mo_unfold 25 = .ok (.iload_n 2, 1) := by decide +kernel
theorem d_Mo_unfold_26 : decode c_Mo_unfold 26 = .ok (.ireturn, 1) := by decide +kernel
theorem d_Mo_unfold_27 : decode c_Mo_unfold 27 = .ok (.aload_n 0, 1) := by decide +kernel
theorem d_Mo_unfold_28 : decode c_Mo_unfold 28 = .ok (.aload_n 0, 1) := by decide +kernel
theorem d_Mo_unfold_29 : decode c_Mo_unfold 29 = .ok (.getfield 175, 3) := by decide +kernel
theorem d_Mo_unfold_32 : decode c_Mo_unfold 32 = .ok (.putfield 159, 3) := by decide +kernel
theorem d_Mo_unfold_35 : decode c_Mo_unfold 35 = .ok (.iconst 0, 1) := by decide +kernel
theorem d_Mo_unfold_36 : decode c_Mo_unfold 36 = .ok (.istore_n 3, 1) := by decide +kernel
theorem d_Mo_unfold_37 : decode c_Mo_unfold 37 = .ok (.iload_n 3, 1) := by decide +kernel
theorem d_Mo_unfold_38 : decode c_Mo_unfold 38 = .ok (.iconst 5, 1) := by decide +kernel
theorem d_Mo_unfold_39 : decode c_Mo_unfold 39 = .ok (.aload_n 0, 1) := by decide +kernel
theorem d_Mo_unfold_40 : decode c_Mo_unfold 40 = .ok (.getfield 159, 3) := by decide +kernel
theorem d_Mo_unfold_43 : decode c_Mo_unfold 43 = .ok (.imul, 1) := by decide +kernel
theorem d_Mo_unfold_44 : decode c_Mo_unfold 44 = .ok (.if_icmp .ge 21, 3) := by decide +kernel
theorem d_Mo_unfold_47 : decode c_Mo_unfold 47 = .ok (.aload_n 0, 1) := by decide +kernel
theorem d_Mo_unfold_48 : decode c_Mo_unfold 48 = .ok (.getfield 23, 3) := by decide +kernel
theorem d_Mo_unfold_51 : decode c_Mo_unfold 51 = .ok (.iload_n 3, 1) := by decide +kernel
theorem d_Mo_unfold_52 : decode c_Mo_unfold 52 = .ok (.aload_n 0, 1) := by decide +kernel
theorem d_Mo_unfold_53 : decode c_Mo_unfold 53 = .ok (.getfield 26, 3) := by decide +kernel
theorem d_Mo_unfold_56 : decode c_Mo_unfold 56 = .ok (.iload_n 3, 1) := by decide +kernel
theorem d_Mo_unfold_57 : decode c_Mo_unfold 57 = .ok (.iaload, 1) := by decide +kernel
theorem d_Mo_unfold_58 : decode c_Mo_unfold 58 = .ok (.iastore, 1) := by decide +kernel
theorem d_Mo_unfold_59 : decode c_Mo_unfold 59 = .ok (.iinc 3 1, 3) := by decide +kernel
theorem d_Mo_unfold_62 : decode c_Mo_unfold 62 = .ok (.goto (-25), 3) := by decide +kernel
theorem d_Mo_unfold_65 : decode c_Mo_unfold 65 = .ok (.iload_n 2, 1) := by decide +kernel
theorem d_Mo_unfold_66 : decode c_Mo_unfold 66 = .ok (.ireturn, 1) := by decide +kernel
set_option maxRecDepth 20000 in
theorem w_Mo_unfold_37b {X : HX} {ad : Nat → Nat} {I : HI} {J : HJ} {N : HN} {r : HI × HJ × Int32} {k37 : HI → HJ → Int32 → Int32 → Option (HI × HJ × Int32)} {a0 : Nat} {p1 : Int32} {x2 : Int32} {x3 : Int32} (C : Cx X c_Mo_unfold RX11 4 (some .int) rm_Mo_unfold) (ha0 : gk Tm nM a0 (0, 11))
    (hk37 : ∀ (I : HI) (J : HJ) (x2 : Int32) (x3 : Int32), k37 I J x2 x3 = some r → G Tm X ad nM 0 0 I J N (gE X Tm ad nM (r.1, r.2.1, N, fun _ => some (.int r.2.2))) 37 4 [(0, .ref (ad a0)), (2, .int x2), (3, .int x3)] [])
    (h : Mo_unfold_37b N a0 p1 k37 I J x2 x3 = some r) : G Tm X ad nM 0 0 I J N (gE X Tm ad nM (r.1, r.2.1, N, fun _ => some (.int r.2.2))) 37 4 [(0, .ref (ad a0)), (2, .int x2), (3, .int x3)] [] := by
  refine g_iload_n (pc := 37) C d_Mo_unfold_37 rfl 2 rfl ?_
  refine g_iconst (pc := 38) C (5 : Int32) d_Mo_unfold_38 (by decide) ?_
  refine g_aload_n (pc := 39) C d_Mo_unfold_39 rfl 0 rfl ?_
  refine g_get (pc := 40) (k := 6) (v := .int (I a0 6)) C gcX11 inX11 (by decide) fl_Mo_159 ha0 rfl d_Mo_unfold_40 ?_
  refine g_imul (pc := 43) C d_Mo_unfold_43 ?_
  refine g_icmp_ge (pc := 44) C 65 d_Mo_unfold_44 rfl (fun e1 => ?_) (fun e1 => ?_)
  · have h := o_pos e1 h
    refine g_iload_n (pc := 65) C d_Mo_unfold_65 rfl 1 rfl ?_
    obtain rfl := o_ret h
    exact g_iret (pc := 66) C d_Mo_unfold_66
  · have h := o_neg e1 h
    refine g_aload_n (pc := 47) C d_Mo_unfold_47 rfl 0 rfl ?_
    obtain ⟨b2, hnb2, hb2, h⟩ := o_ra h
    refine g_get (pc := 48) (k := 5) (v := va_rf ((N a0 5).map ad)) C gcX11 inX11 (by decide) fl_Mo_23 ha0 rfl d_Mo_unfold_48 ?_
    refine g_top (g_rf hnb2) ?_
    refine g_iload_n (pc := 51) C d_Mo_unfold_51 rfl 2 rfl ?_
    refine g_aload_n (pc := 52) C d_Mo_unfold_52 rfl 0 rfl ?_
    obtain ⟨b3, hnb3, hb3, h⟩ := o_ra h
    refine g_get (pc := 53) (k := 7) (v := va_rf ((N a0 7).map ad)) C gcX11 inX11 (by decide) fl_Mo_26 ha0 rfl d_Mo_unfold_53 ?_
    refine g_top (g_rf hnb3) ?_
    refine g_iload_n (pc := 56) C d_Mo_unfold_56 rfl 2 rfl ?_
    obtain ⟨hi4, h⟩ := o_gd h
    refine g_iald (pc := 57) C hb3 hi4 d_Mo_unfold_57 ?_
    obtain ⟨hi5, h⟩ := o_gd h
    refine g_iast (pc := 58) C hb2 hi5 d_Mo_unfold_58 ?_
    obtain ⟨I6, eI6, h⟩ := o_bd h
    rw [← eI6]
    refine g_iinc (pc := 59) (q := 2) (lv' := [(3, .int (x3 + 1)), (0, .ref (ad a0)), (2, .int x2)]) C d_Mo_unfold_59 rfl rfl (by decide) rfl ?_
    refine g_goto (pc := 62) C 37 d_Mo_unfold_62 rfl ?_
    refine g_lv [1, 2, 0] rfl ?_
    exact hk37 _ _ _ _ h
set_option maxRecDepth 20000 in
theorem w_Mo_unfold_37 {X : HX} {ad : Nat → Nat} {N : HN} {r : HI × HJ × Int32} {a0 : Nat} {p1 : Int32} (C : Cx X c_Mo_unfold RX11 4 (some .int) rm_Mo_unfold) (ha0 : gk Tm nM a0 (0, 11)) : ∀ (n : Nat) (I : HI) (J : HJ) (x2 : Int32) (x3 : Int32), Mo_unfold_37 N a0 p1 n I J x2 x3 = some r → G Tm X ad nM 0 0 I J N (gE X Tm ad nM (r.1, r.2.1, N, fun _ => some (.int r.2.2))) 37 4 [(0, .ref (ad a0)), (2, .int x2), (3, .int x3)] [] := by
  intro n
  induction n with
  | zero => intro I J x2 x3 h; cases h
  | succ n ih => intro I J x2 x3 h; exact w_Mo_unfold_37b C ha0 ih h
set_option maxRecDepth 20000 in
theorem w_Mo_unfold_0 {X : HX} {ad : Nat → Nat} {I : HI} {J : HJ} {N : HN} {r : HI × HJ × Int32} {a0 : Nat} {p1 : Int32} (C : Cx X c_Mo_unfold RX11 4 (some .int) rm_Mo_unfold) (ha0 : gk Tm nM a0 (0, 11))
    (h : Mo_unfold_0 N a0 p1 I J = some r) : G Tm X ad nM 0 0 I J N (gE X Tm ad nM (r.1, r.2.1, N, fun _ => some (.int r.2.2))) 0 4 [(0, .ref (ad a0)), (1, .int p1)] [] := by
  refine g_iload_n (pc := 0) C d_Mo_unfold_0 rfl 1 rfl ?_
  refine g_i2l (pc := 1) C d_Mo_unfold_1 ?_
  refine g_lconst (pc := 2) C (0 : Int64) d_Mo_unfold_2 (by decide) ?_
  refine g_ldc2 (pc := 3) C kc_Mo_268 d_Mo_unfold_3 ?_
  obtain ⟨r1, hc2, h⟩ := o_bn1 h
  refine g_S (pc := 6) (rest := []) C (k_Mo_in (xl X)  hc2) sm_Mo_in ml_Mo_83 st_Mo_in ⟨rfl, rfl, Nat.le_of_ble_eq_true rfl, Nat.le_of_ble_eq_true rfl⟩ ⟨Nat.zero_le _, Nat.zero_le _⟩ rfl rfl (Nat.le_of_ble_eq_true rfl) d_Mo_unfold_6 [.int r1] rfl ?_
  refine g_if_ne (pc := 9) C 15 d_Mo_unfold_9 rfl (fun e3 => ?_) (fun e3 => ?_)
  · have h := o_neg e3 h
    refine g_aload_n (pc := 15) C d_Mo_unfold_15 rfl 0 rfl ?_
    refine g_iload_n (pc := 16) C d_Mo_unfold_16 rfl 1 rfl ?_
    obtain ⟨I4, J5, r6, hc7, h⟩ := o_bn3 h
    refine g_V (pc := 17) (rest := []) C (k_Mo_unfolds (xl X) ha0 hc7) sm_Mo_unfolds ml_Mo_270 im_Mo_unfolds se_Mo_unfolds gcX11 rfl ha0 ⟨rfl, rfl, Nat.le_of_ble_eq_true rfl, Nat.le_of_ble_eq_true rfl⟩ ⟨Nat.zero_le _, Nat.zero_le _⟩ rfl rfl (Nat.le_of_ble_eq_true rfl) d_Mo_unfold_17 [.int r6] rfl ?_
    refine g_istore_n (pc := 20) (lv' := [(2, .int r6), (0, .ref (ad a0)), (1, .int p1)]) C d_Mo_unfold_20 rfl (by decide) rfl ?_
    refine g_iload_n (pc := 21) C d_Mo_unfold_21 rfl 0 rfl ?_
    refine g_if_ge (pc := 22) C 27 d_Mo_unfold_22 rfl (fun e8 => ?_) (fun e8 => ?_)
    · have h := o_pos e8 h
      refine g_aload_n (pc := 27) C d_Mo_unfold_27 rfl 1 rfl ?_
      refine g_aload_n (pc := 28) C d_Mo_unfold_28 rfl 1 rfl ?_
      refine g_get (pc := 29) (k := 8) (v := .int (I4 a0 8)) C gcX11 inX11 (by decide) fl_Mo_175 ha0 rfl d_Mo_unfold_29 ?_
      refine g_put (pc := 32) (I' := up2 I4 a0 6 (I4 a0 8)) (J' := J5) (N' := N) (k := 6) C gcX11 inX11 tyX11_ok nmX11 (by decide) fl_Mo_159 rfl ha0 (tyX11_ok 6 (by decide)) rfl rfl (Nat.le_of_ble_eq_true rfl) gs_11_6 (fun b hb => up2_of hb) (fun _ _ => rfl) (fun _ _ => rfl) d_Mo_unfold_32 ?_
      obtain ⟨I9, eI9, h⟩ := o_bd h
      rw [← eI9]
      refine g_iconst (pc := 35) C (0 : Int32) d_Mo_unfold_35 (by decide) ?_
      refine g_istore_n (pc := 36) (lv' := [(3, .int (0 : Int32)), (2, .int r6), (0, .ref (ad a0)), (1, .int p1)]) C d_Mo_unfold_36 rfl (by decide) rfl ?_
      refine g_lv [2, 1, 0] rfl ?_
      exact w_Mo_unfold_37 C ha0 _ _ _ _ _ h
    · have h := o_neg e8 h
      refine g_iload_n (pc := 25) C d_Mo_unfold_25 rfl 0 rfl ?_
      obtain rfl := o_ret h
      exact g_iret (pc := 26) C d_Mo_unfold_26
  · have h := o_pos e3 h
    refine g_bipush (pc := 12) C (-2 : Int32) d_Mo_unfold_12 (by decide) ?_
    obtain rfl := o_ret h
    exact g_iret (pc := 14) C d_Mo_unfold_14
set_option maxRecDepth 20000 in
theorem k_Mo_unfold (l : Launch) {I : HI} {J : HJ} {N : HN} {a0 : Nat} {p1 : Int32} {r : HI × HJ × Int32} (ha0 : gk Tm nM a0 (0, 11)) (h : Mo_unfold N a0 p1 I J = some r) : gM l y_Mo_unfold c_Mo_unfold 4 (some .int) rm_Mo_unfold Tm nM I J N (fun ad => [.ref (ad a0), .int p1]) (r.1, r.2.1, N, fun _ => some (.int r.2.2)) :=
  g_meth (lv := fun ad => [(0, .ref (ad a0)), (1, .int p1)]) (by decide) (fun _ => Nat.le_of_ble_eq_true rfl) (fun _ => rfl) (fun X ad C => g_lv [0, 1] rfl (w_Mo_unfold_0 C ha0 h))
theorem d_Mo_armOf_0 : decode c_Mo_armOf 0 = .ok (.aload_n 0, 1) := by decide +kernel
theorem d_Mo_armOf_1 : decode c_Mo_armOf 1 = .ok (.getfield 23, 3) := by decide +kernel
theorem d_Mo_armOf_4 : decode c_Mo_armOf 4 = .ok (.iconst 5, 1) := by decide +kernel
theorem d_Mo_armOf_5 : decode c_Mo_armOf 5 = .ok (.iload_n 1, 1) := by decide +kernel
theorem d_Mo_armOf_6 : decode c_Mo_armOf 6 = .ok (.imul, 1) := by decide +kernel
theorem d_Mo_armOf_7 : decode c_Mo_armOf 7 = .ok (.iaload, 1) := by decide +kernel
theorem d_Mo_armOf_8 : decode c_Mo_armOf 8 = .ok (.istore_n 2, 1) := by decide +kernel
theorem d_Mo_armOf_9 : decode c_Mo_armOf 9 = .ok (.aload_n 0, 1) := by decide +kernel
theorem d_Mo_armOf_10 : decode c_Mo_armOf 10 = .ok (.getfield 23, 3) := by decide +kernel
theorem d_Mo_armOf_13 : decode c_Mo_armOf 13 = .ok (.iconst 5, 1) := by decide +kernel
theorem d_Mo_armOf_14 : decode c_Mo_armOf 14 = .ok (.iload_n 1, 1) := by decide +kernel
theorem d_Mo_armOf_15 : decode c_Mo_armOf 15 = .ok (.imul, 1) := by decide +kernel
theorem d_Mo_armOf_16 : decode c_Mo_armOf 16 = .ok (.iload_n 2, 1) := by decide +kernel
theorem d_Mo_armOf_17 : decode c_Mo_armOf 17 = .ok (.ifCond .ne 7, 3) := by decide +kernel
theorem d_Mo_armOf_20 : decode c_Mo_armOf 20 = .ok (.iconst 1, 1) := by decide +kernel
theorem d_Mo_armOf_21 : decode c_Mo_armOf 21 = .ok (.goto 4, 3) := by decide +kernel
theorem d_Mo_armOf_24 : decode c_Mo_armOf 24 = .ok (.iconst 3, 1) := by decide +kernel
theorem d_Mo_armOf_25 : decode c_Mo_armOf 25 = .ok (.iadd, 1) := by decide +kernel
theorem d_Mo_armOf_26 : decode c_Mo_armOf 26 = .ok (.iaload, 1) := by decide +kernel
theorem d_Mo_armOf_27 : decode c_Mo_armOf 27 = .ok (.i2l, 1) := by decide +kernel
theorem d_Mo_armOf_28 : decode c_Mo_armOf 28 = .ok (.lstore_n 3, 1) := by decide +kernel
theorem d_Mo_armOf_29 : decode c_Mo_armOf 29 = .ok (.aload_n 0, 1) := by decide +kernel
theorem d_Mo_armOf_30 : decode c_Mo_armOf 30 = .ok (.getfield 23, 3) := by decide +kernel
theorem d_Mo_armOf_33 : decode c_Mo_armOf 33 = .ok (.iconst 5, 1) := by decide +kernel
theorem d_Mo_armOf_34 : decode c_Mo_armOf 34 = .ok (.iload_n 1, 1) := by decide +kernel
theorem d_Mo_armOf_35 : decode c_Mo_armOf 35 = .ok (.imul, 1) := by decide +kernel
theorem d_Mo_armOf_36 : decode c_Mo_armOf 36 = .ok (.iload_n 2, 1) := by decide +kernel
theorem d_Mo_armOf_37 : decode c_Mo_armOf 37 = .ok (.ifCond .ne 7, 3) := by decide +kernel
theorem d_Mo_armOf_40 : decode c_Mo_armOf 40 = .ok (.iconst 2, 1) := by decide +kernel
theorem d_Mo_armOf_41 : decode c_Mo_armOf 41 = .ok (.goto 4, 3) := by decide +kernel
theorem d_Mo_armOf_44 : decode c_Mo_armOf 44 = .ok (.iconst 4, 1) := by decide +kernel
theorem d_Mo_armOf_45 : decode c_Mo_armOf 45 = .ok (.iadd, 1) := by decide +kernel
theorem d_Mo_armOf_46 : decode c_Mo_armOf 46 = .ok (.iaload, 1) := by decide +kernel
theorem d_Mo_armOf_47 : decode c_Mo_armOf 47 = .ok (.i2l, 1) := by decide +kernel
theorem d_Mo_armOf_48 : decode c_Mo_armOf 48 = .ok (.lstore 5, 2) := by decide +kernel
theorem d_Mo_armOf_50 : decode c_Mo_armOf 50 = .ok (.aload_n 0, 1) := by decide +kernel
theorem d_Mo_armOf_51 : decode c_Mo_armOf 51 = .ok (.getfield 23, 3) := by decide +kernel
theorem d_Mo_armOf_54 : decode c_Mo_armOf 54 = .ok (.iconst 5, 1) := by decide +kernel
theorem d_Mo_armOf_55 : decode c_Mo_armOf 55 = .ok (.iload_n 1, 1) := by decide +kernel
theorem d_Mo_armOf_56 : decode c_Mo_armOf 56 = .ok (.imul, 1) := by decide +kernel
theorem d_Mo_armOf_57 : decode c_Mo_armOf 57 = .ok (.iload_n 2, 1) := by decide +kernel
theorem d_Mo_armOf_58 : decode c_Mo_armOf 58 = .ok (.ifCond .ne 7, 3) := by decide +kernel
theorem d_Mo_armOf_61 : decode c_Mo_armOf 61 = .ok (.iconst 3, 1) := by decide +kernel
theorem d_Mo_armOf_62 : decode c_Mo_armOf 62 = .ok (.goto 4, 3) := by decide +kernel
theorem d_Mo_armOf_65 : decode c_Mo_armOf 65 = .ok (.iconst 1, 1) := by decide +kernel
theorem d_Mo_armOf_66 : decode c_Mo_armOf 66 = .ok (.iadd, 1) := by decide +kernel
theorem d_Mo_armOf_67 : decode c_Mo_armOf 67 = .ok (.iaload, 1) := by decide +kernel
theorem d_Mo_armOf_68 : decode c_Mo_armOf 68 = .ok (.i2l, 1) := by decide +kernel
theorem d_Mo_armOf_69 : decode c_Mo_armOf 69 = .ok (.lstore 7, 2) := by decide +kernel
theorem d_Mo_armOf_71 : decode c_Mo_armOf 71 = .ok (.aload_n 0, 1) := by decide +kernel
theorem d_Mo_armOf_72 : decode c_Mo_armOf 72 = .ok (.getfield 23, 3) := by decide +kernel
theorem d_Mo_armOf_75 : decode c_Mo_armOf 75 = .ok (.iconst 5, 1) := by decide +kernel
theorem d_Mo_armOf_76 : decode c_Mo_armOf 76 = .ok (.iload_n 1, 1) := by decide +kernel
theorem d_Mo_armOf_77 : decode c_Mo_armOf 77 = .ok (.imul, 1) := by decide +kernel
theorem d_Mo_armOf_78 : decode c_Mo_armOf 78 = .ok (.iload_n 2, 1) := by decide +kernel
theorem d_Mo_armOf_79 : decode c_Mo_armOf 79 = .ok (.ifCond .ne 7, 3) := by decide +kernel
theorem d_Mo_armOf_82 : decode c_Mo_armOf 82 = .ok (.iconst 4, 1) := by decide +kernel
theorem d_Mo_armOf_83 : decode c_Mo_armOf 83 = .ok (.goto 4, 3) := by decide +kernel
theorem d_Mo_armOf_86 : decode c_Mo_armOf 86 = .ok (.iconst 2, 1) := by decide +kernel
theorem d_Mo_armOf_87 : decode c_Mo_armOf 87 = .ok (.iadd, 1) := by decide +kernel
theorem d_Mo_armOf_88 : decode c_Mo_armOf 88 = .ok (.iaload, 1) := by decide +kernel
theorem d_Mo_armOf_89 : decode c_Mo_armOf 89 = .ok (.i2l, 1) := by decide +kernel
theorem d_Mo_armOf_90 : decode c_Mo_armOf 90 = .ok (.lstore 9, 2) := by decide +kernel
theorem d_Mo_armOf_92 : decode c_Mo_armOf 92 = .ok (.iconst 0, 1) := by decide +kernel
theorem d_Mo_armOf_93 : decode c_Mo_armOf 93 = .ok (.istore 11, 2) := by decide +kernel
theorem d_Mo_armOf_95 : decode c_Mo_armOf 95 = .ok (.iload 11, 2) := by decide +kernel
theorem d_Mo_armOf_97 : decode c_Mo_armOf 97 = .ok (.iconst 3, 1) := by decide +kernel
theorem d_Mo_armOf_98 : decode c_Mo_armOf 98 = .ok (.if_icmp .ge 25, 3) := by decide +kernel
theorem d_Mo_armOf_101 : decode c_Mo_armOf 101 = .ok (.aload_n 0, 1) := by decide +kernel
theorem d_Mo_armOf_102 : decode c_Mo_armOf 102 = .ok (.getfield 62, 3) := by decide +kernel
theorem d_Mo_armOf_105 : decode c_Mo_armOf 105 = .ok (.iload 11, 2) := by decide +kernel
theorem d_Mo_armOf_107 : decode c_Mo_armOf 107 = .ok (.lconst 0, 1) := by decide +kernel
theorem d_Mo_armOf_108 : decode c_Mo_armOf 108 = .ok (.lastore, 1) := by decide +kernel
theorem d_Mo_armOf_109 : decode c_Mo_armOf 109 = .ok (.aload_n 0, 1) := by decide +kernel
theorem d_Mo_armOf_110 : decode c_Mo_armOf 110 = .ok (.getfield 65, 3) := by decide +kernel
theorem d_Mo_armOf_113 : decode c_Mo_armOf 113 = .ok (.iload 11, 2) := by decide +kernel
theorem d_Mo_armOf_115 : decode c_Mo_armOf 115 = .ok (.lconst 0, 1) := by decide +kernel
theorem d_Mo_armOf_116 : decode c_Mo_armOf 116 = .ok (.lastore, 1) := by decide +kernel
theorem d_Mo_armOf_117 : decode c_Mo_armOf 117 = .ok (.iinc 11 1, 3) := by decide +kernel
theorem d_Mo_armOf_120 : decode c_Mo_armOf 120 = .ok (.goto (-25), 3) := by decide +kernel
theorem d_Mo_armOf_123 : decode c_Mo_armOf 123 = .ok (.lload 7, 2) := by decide +kernel
theorem d_Mo_armOf_125 : decode c_Mo_armOf 125 = .ok (.lconst 0, 1) := by decide +kernel
theorem d_Mo_armOf_126 : decode c_Mo_armOf 126 = .ok (.lcmp, 1) := by decide +kernel
theorem d_Mo_armOf_127 : decode c_Mo_armOf 127 = .ok (.ifCond .ne 21, 3) := by decide +kernel
theorem d_Mo_armOf_130 : decode c_Mo_armOf 130 = .ok (.aload_n 0, 1) := by decide +kernel
theorem d_Mo_armOf_131 : decode c_Mo_armOf 131 = .ok (.getfield 62, 3) := by decide +kernel
theorem d_Mo_armOf_134 : decode c_Mo_armOf 134 = .ok (.iconst 1, 1) := by decide +kernel
theorem d_Mo_armOf_135 : decode c_Mo_armOf 135 = .ok (.lload_n 3, 1) := by decide +kernel
theorem d_Mo_armOf_136 : decode c_Mo_armOf 136 = .ok (.lastore, 1) := by decide +kernel
theorem d_Mo_armOf_137 : decode c_Mo_armOf 137 = .ok (.aload_n 0, 1) := by decide +kernel
theorem d_Mo_armOf_138 : decode c_Mo_armOf 138 = .ok (.getfield 65, 3) := by decide +kernel
theorem d_Mo_armOf_141 : decode c_Mo_armOf 141 = .ok (.iconst 0, 1) := by decide +kernel
theorem d_Mo_armOf_142 : decode c_Mo_armOf 142 = .ok (.lload 5, 2) := by decide +kernel
theorem d_Mo_armOf_144 : decode c_Mo_armOf 144 = .ok (.lastore, 1) := by decide +kernel
theorem d_Mo_armOf_145 : decode c_Mo_armOf 145 = .ok (.goto 59, 3) := by decide +kernel
theorem d_Mo_armOf_148 : decode c_Mo_armOf 148 = .ok (.lload_n 3, 1) := by decide +kernel
theorem d_Mo_armOf_149 : decode c_Mo_armOf 149 = .ok (.lconst 0, 1) := by decide +kernel
theorem d_Mo_armOf_150 : decode c_Mo_armOf 150 = .ok (.lcmp, 1) := by decide +kernel
theorem d_Mo_armOf_151 : decode c_Mo_armOf 151 = .ok (.ifCond .ne 22, 3) := by decide +kernel
theorem d_Mo_armOf_154 : decode c_Mo_armOf 154 = .ok (.aload_n 0, 1) := by decide +kernel
theorem d_Mo_armOf_155 : decode c_Mo_armOf 155 = .ok (.getfield 62, 3) := by decide +kernel
theorem d_Mo_armOf_158 : decode c_Mo_armOf 158 = .ok (.iconst 0, 1) := by decide +kernel
theorem d_Mo_armOf_159 : decode c_Mo_armOf 159 = .ok (.lload 9, 2) := by decide +kernel
theorem d_Mo_armOf_161 : decode c_Mo_armOf 161 = .ok (.lastore, 1) := by decide +kernel
theorem d_Mo_armOf_162 : decode c_Mo_armOf 162 = .ok (.aload_n 0, 1) := by decide +kernel
theorem d_Mo_armOf_163 : decode c_Mo_armOf 163 = .ok (.getfield 65, 3) := by decide +kernel
theorem d_Mo_armOf_166 : decode c_Mo_armOf 166 = .ok (.iconst 1, 1) := by decide +kernel
theorem d_Mo_armOf_167 : decode c_Mo_armOf 167 = .ok (.lload 7, 2) := by decide +kernel
theorem d_Mo_armOf_169 : decode c_Mo_armOf 169 = .ok (.lastore, 1) := by decide +kernel
theorem d_Mo_armOf_170 : decode c_Mo_armOf 170 = .ok (.goto 34, 3) := by decide +kernel
theorem d_Mo_armOf_173 : decode c_Mo_armOf 173 = .ok (.aload_n 0, 1) := by decide +kernel
theorem d_Mo_armOf_174 : decode c_Mo_armOf 174 = .ok (.getfield 62, 3) := by decide +kernel
theorem d_Mo_armOf_177 : decode c_Mo_armOf 177 = .ok (.iconst 1, 1) := by decide +kernel
theorem d_Mo_armOf_178 : decode c_Mo_armOf 178 = .ok (.lload_n 3, 1) := by decide +kernel
theorem d_Mo_armOf_179 : decode c_Mo_armOf 179 = .ok (.lload 9, 2) := by decide +kernel
theorem d_Mo_armOf_181 : decode c_Mo_armOf 181 = .ok (.lmul, 1) := by decide +kernel
theorem d_Mo_armOf_182 : decode c_Mo_armOf 182 = .ok (.lastore, 1) := by decide +kernel
theorem d_Mo_armOf_183 : decode c_Mo_armOf 183 = .ok (.aload_n 0, 1) := by decide +kernel
theorem d_Mo_armOf_184 : decode c_Mo_armOf 184 = .ok (.getfield 65, 3) := by decide +kernel
theorem d_Mo_armOf_187 : decode c_Mo_armOf 187 = .ok (.iconst 0, 1) := by decide +kernel
theorem d_Mo_armOf_188 : decode c_Mo_armOf 188 = .ok (.lload 5, 2) := by decide +kernel
theorem d_Mo_armOf_190 : decode c_Mo_armOf 190 = .ok (.lload 9, 2) := by decide +kernel
theorem d_Mo_armOf_192 : decode c_Mo_armOf 192 = .ok (.lmul, 1) := by decide +kernel
theorem d_Mo_armOf_193 : decode c_Mo_armOf 193 = .ok (.lastore, 1) := by decide +kernel
theorem d_Mo_armOf_194 : decode c_Mo_armOf 194 = .ok (.aload_n 0, 1) := by decide +kernel
theorem d_Mo_armOf_195 : decode c_Mo_armOf 195 = .ok (.getfield 65, 3) := by decide +kernel
theorem d_Mo_armOf_198 : decode c_Mo_armOf 198 = .ok (.iconst 2, 1) := by decide +kernel
theorem d_Mo_armOf_199 : decode c_Mo_armOf 199 = .ok (.lload_n 3, 1) := by decide +kernel
theorem d_Mo_armOf_200 : decode c_Mo_armOf 200 = .ok (.lload 7, 2) := by decide +kernel
theorem d_Mo_armOf_202 : decode c_Mo_armOf 202 = .ok (.lmul, 1) := by decide +kernel
theorem d_Mo_armOf_203 : decode c_Mo_armOf 203 = .ok (.lastore, 1) := by decide +kernel
theorem d_Mo_armOf_204 : decode c_Mo_armOf 204 = .ok (.return_, 1) := by decide +kernel
set_option maxRecDepth 20000 in
theorem w_Mo_armOf_95b {X : HX} {ad : Nat → Nat} {I : HI} {J : HJ} {N : HN} {r : HJ} {k95 : HJ → Int64 → Int64 → Int64 → Int64 → Int32 → Option (HJ)} {a0 : Nat} {p1 : Int32} {x3 : Int64} {x5 : Int64} {x7 : Int64} {x9 : Int64} {x11 : Int32} (C : Cx X c_Mo_armOf RX11 12 none rm_Mo_armOf) (ha0 : gk Tm nM a0 (0, 11))
    (hk95 : ∀ (J : HJ) (x3 : Int64) (x5 : Int64) (x7 : Int64) (x9 : Int64) (x11 : Int32), k95 J x3 x5 x7 x9 x11 = some r → G Tm X ad nM 0 0 I J N (gE X Tm ad nM (I, r, N, fun _ => none)) 95 12 [(0, .ref (ad a0)), (3, .long x3), (5, .long x5), (7, .long x7), (9, .long x9), (11, .int x11)] [])
    (h : Mo_armOf_95b I N a0 p1 k95 J x3 x5 x7 x9 x11 = some r) : G Tm X ad nM 0 0 I J N (gE X Tm ad nM (I, r, N, fun _ => none)) 95 12 [(0, .ref (ad a0)), (3, .long x3), (5, .long x5), (7, .long x7), (9, .long x9), (11, .int x11)] [] := by
  refine g_iload (pc := 95) C d_Mo_armOf_95 5 rfl ?_
  refine g_iconst (pc := 97) C (3 : Int32) d_Mo_armOf_97 (by decide) ?_
  refine g_icmp_ge (pc := 98) C 123 d_Mo_armOf_98 rfl (fun e1 => ?_) (fun e1 => ?_)
  · have h := o_pos e1 h
    refine g_lload (pc := 123) C d_Mo_armOf_123 3 rfl ?_
    refine g_lconst (pc := 125) C (0 : Int64) d_Mo_armOf_125 (by decide) ?_
    refine g_lcmp_ne (pc := 126) C 148 d_Mo_armOf_126 d_Mo_armOf_127 rfl (fun e2 => ?_) (fun e2 => ?_)
    · have h := o_neg e2 h
      refine g_lload_n (pc := 148) C d_Mo_armOf_148 rfl 1 rfl ?_
      refine g_lconst (pc := 149) C (0 : Int64) d_Mo_armOf_149 (by decide) ?_
      refine g_lcmp_ne (pc := 150) C 173 d_Mo_armOf_150 d_Mo_armOf_151 rfl (fun e3 => ?_) (fun e3 => ?_)
      · have h := o_neg e3 h
        refine g_aload_n (pc := 173) C d_Mo_armOf_173 rfl 0 rfl ?_
        obtain ⟨b4, hnb4, hb4, h⟩ := o_ra h
        refine g_get (pc := 174) (k := 25) (v := va_rf ((N a0 25).map ad)) C gcX11 inX11 (by decide) fl_Mo_62 ha0 rfl d_Mo_armOf_174 ?_
        refine g_top (g_rf hnb4) ?_
        refine g_iconst (pc := 177) C (1 : Int32) d_Mo_armOf_177 (by decide) ?_
        refine g_lload_n (pc := 178) C d_Mo_armOf_178 rfl 1 rfl ?_
        refine g_lload (pc := 179) C d_Mo_armOf_179 4 rfl ?_
        refine g_lmul (pc := 181) C d_Mo_armOf_181 ?_
        obtain ⟨hi5, h⟩ := o_gd h
        refine g_last (pc := 182) C hb4 hi5 d_Mo_armOf_182 ?_
        obtain ⟨J6, eJ6, h⟩ := o_bd h
        rw [← eJ6]
        refine g_aload_n (pc := 183) C d_Mo_armOf_183 rfl 0 rfl ?_
        obtain ⟨b7, hnb7, hb7, h⟩ := o_ra h
        refine g_get (pc := 184) (k := 26) (v := va_rf ((N a0 26).map ad)) C gcX11 inX11 (by decide) fl_Mo_65 ha0 rfl d_Mo_armOf_184 ?_
        refine g_top (g_rf hnb7) ?_
        refine g_iconst (pc := 187) C (0 : Int32) d_Mo_armOf_187 (by decide) ?_
        refine g_lload (pc := 188) C d_Mo_armOf_188 2 rfl ?_
        refine g_lload (pc := 190) C d_Mo_armOf_190 4 rfl ?_
        refine g_lmul (pc := 192) C d_Mo_armOf_192 ?_
        obtain ⟨hi8, h⟩ := o_gd h
        refine g_last (pc := 193) C hb7 hi8 d_Mo_armOf_193 ?_
        obtain ⟨J9, eJ9, h⟩ := o_bd h
        rw [← eJ9]
        refine g_aload_n (pc := 194) C d_Mo_armOf_194 rfl 0 rfl ?_
        obtain ⟨b10, hnb10, hb10, h⟩ := o_ra h
        refine g_get (pc := 195) (k := 26) (v := va_rf ((N a0 26).map ad)) C gcX11 inX11 (by decide) fl_Mo_65 ha0 rfl d_Mo_armOf_195 ?_
        refine g_top (g_rf hnb10) ?_
        refine g_iconst (pc := 198) C (2 : Int32) d_Mo_armOf_198 (by decide) ?_
        refine g_lload_n (pc := 199) C d_Mo_armOf_199 rfl 1 rfl ?_
        refine g_lload (pc := 200) C d_Mo_armOf_200 3 rfl ?_
        refine g_lmul (pc := 202) C d_Mo_armOf_202 ?_
        obtain ⟨hi11, h⟩ := o_gd h
        refine g_last (pc := 203) C hb10 hi11 d_Mo_armOf_203 ?_
        obtain ⟨J12, eJ12, h⟩ := o_bd h
        rw [← eJ12]
        obtain rfl := o_ret h
        exact g_vret (pc := 204) C d_Mo_armOf_204
      · have h := o_pos e3 h
        refine g_aload_n (pc := 154) C d_Mo_armOf_154 rfl 0 rfl ?_
        obtain ⟨b13, hnb13, hb13, h⟩ := o_ra h
        refine g_get (pc := 155) (k := 25) (v := va_rf ((N a0 25).map ad)) C gcX11 inX11 (by decide) fl_Mo_62 ha0 rfl d_Mo_armOf_155 ?_
        refine g_top (g_rf hnb13) ?_
        refine g_iconst (pc := 158) C (0 : Int32) d_Mo_armOf_158 (by decide) ?_
        refine g_lload (pc := 159) C d_Mo_armOf_159 4 rfl ?_
        obtain ⟨hi14, h⟩ := o_gd h
        refine g_last (pc := 161) C hb13 hi14 d_Mo_armOf_161 ?_
        obtain ⟨J15, eJ15, h⟩ := o_bd h
        rw [← eJ15]
        refine g_aload_n (pc := 162) C d_Mo_armOf_162 rfl 0 rfl ?_
        obtain ⟨b16, hnb16, hb16, h⟩ := o_ra h
        refine g_get (pc := 163) (k := 26) (v := va_rf ((N a0 26).map ad)) C gcX11 inX11 (by decide) fl_Mo_65 ha0 rfl d_Mo_armOf_163 ?_
        refine g_top (g_rf hnb16) ?_
        refine g_iconst (pc := 166) C (1 : Int32) d_Mo_armOf_166 (by decide) ?_
        refine g_lload (pc := 167) C d_Mo_armOf_167 3 rfl ?_
        obtain ⟨hi17, h⟩ := o_gd h
        refine g_last (pc := 169) C hb16 hi17 d_Mo_armOf_169 ?_
        obtain ⟨J18, eJ18, h⟩ := o_bd h
        rw [← eJ18]
        refine g_goto (pc := 170) C 204 d_Mo_armOf_170 rfl ?_
        obtain rfl := o_ret h
        exact g_vret (pc := 204) C d_Mo_armOf_204
    · have h := o_pos e2 h
      refine g_aload_n (pc := 130) C d_Mo_armOf_130 rfl 0 rfl ?_
      obtain ⟨b19, hnb19, hb19, h⟩ := o_ra h
      refine g_get (pc := 131) (k := 25) (v := va_rf ((N a0 25).map ad)) C gcX11 inX11 (by decide) fl_Mo_62 ha0 rfl d_Mo_armOf_131 ?_
      refine g_top (g_rf hnb19) ?_
      refine g_iconst (pc := 134) C (1 : Int32) d_Mo_armOf_134 (by decide) ?_
      refine g_lload_n (pc := 135) C d_Mo_armOf_135 rfl 1 rfl ?_
      obtain ⟨hi20, h⟩ := o_gd h
      refine g_last (pc := 136) C hb19 hi20 d_Mo_armOf_136 ?_
      obtain ⟨J21, eJ21, h⟩ := o_bd h
      rw [← eJ21]
      refine g_aload_n (pc := 137) C d_Mo_armOf_137 rfl 0 rfl ?_
      obtain ⟨b22, hnb22, hb22, h⟩ := o_ra h
      refine g_get (pc := 138) (k := 26) (v := va_rf ((N a0 26).map ad)) C gcX11 inX11 (by decide) fl_Mo_65 ha0 rfl d_Mo_armOf_138 ?_
      refine g_top (g_rf hnb22) ?_
      refine g_iconst (pc := 141) C (0 : Int32) d_Mo_armOf_141 (by decide) ?_
      refine g_lload (pc := 142) C d_Mo_armOf_142 2 rfl ?_
      obtain ⟨hi23, h⟩ := o_gd h
      refine g_last (pc := 144) C hb22 hi23 d_Mo_armOf_144 ?_
      obtain ⟨J24, eJ24, h⟩ := o_bd h
      rw [← eJ24]
      refine g_goto (pc := 145) C 204 d_Mo_armOf_145 rfl ?_
      obtain rfl := o_ret h
      exact g_vret (pc := 204) C d_Mo_armOf_204
  · have h := o_neg e1 h
    refine g_aload_n (pc := 101) C d_Mo_armOf_101 rfl 0 rfl ?_
    obtain ⟨b25, hnb25, hb25, h⟩ := o_ra h
    refine g_get (pc := 102) (k := 25) (v := va_rf ((N a0 25).map ad)) C gcX11 inX11 (by decide) fl_Mo_62 ha0 rfl d_Mo_armOf_102 ?_
    refine g_top (g_rf hnb25) ?_
    refine g_iload (pc := 105) C d_Mo_armOf_105 5 rfl ?_
    refine g_lconst (pc := 107) C (0 : Int64) d_Mo_armOf_107 (by decide) ?_
    obtain ⟨hi26, h⟩ := o_gd h
    refine g_last (pc := 108) C hb25 hi26 d_Mo_armOf_108 ?_
    obtain ⟨J27, eJ27, h⟩ := o_bd h
    rw [← eJ27]
    refine g_aload_n (pc := 109) C d_Mo_armOf_109 rfl 0 rfl ?_
    obtain ⟨b28, hnb28, hb28, h⟩ := o_ra h
    refine g_get (pc := 110) (k := 26) (v := va_rf ((N a0 26).map ad)) C gcX11 inX11 (by decide) fl_Mo_65 ha0 rfl d_Mo_armOf_110 ?_
    refine g_top (g_rf hnb28) ?_
    refine g_iload (pc := 113) C d_Mo_armOf_113 5 rfl ?_
    refine g_lconst (pc := 115) C (0 : Int64) d_Mo_armOf_115 (by decide) ?_
    obtain ⟨hi29, h⟩ := o_gd h
    refine g_last (pc := 116) C hb28 hi29 d_Mo_armOf_116 ?_
    obtain ⟨J30, eJ30, h⟩ := o_bd h
    rw [← eJ30]
    refine g_iinc (pc := 117) (q := 5) (lv' := [(11, .int (x11 + 1)), (0, .ref (ad a0)), (3, .long x3), (5, .long x5), (7, .long x7), (9, .long x9)]) C d_Mo_armOf_117 rfl rfl (by decide) rfl ?_
    refine g_goto (pc := 120) C 95 d_Mo_armOf_120 rfl ?_
    refine g_lv [1, 2, 3, 4, 5, 0] rfl ?_
    exact hk95 _ _ _ _ _ _ h
set_option maxRecDepth 20000 in
theorem w_Mo_armOf_95 {X : HX} {ad : Nat → Nat} {I : HI} {N : HN} {r : HJ} {a0 : Nat} {p1 : Int32} (C : Cx X c_Mo_armOf RX11 12 none rm_Mo_armOf) (ha0 : gk Tm nM a0 (0, 11)) : ∀ (n : Nat) (J : HJ) (x3 : Int64) (x5 : Int64) (x7 : Int64) (x9 : Int64) (x11 : Int32), Mo_armOf_95 I N a0 p1 n J x3 x5 x7 x9 x11 = some r → G Tm X ad nM 0 0 I J N (gE X Tm ad nM (I, r, N, fun _ => none)) 95 12 [(0, .ref (ad a0)), (3, .long x3), (5, .long x5), (7, .long x7), (9, .long x9), (11, .int x11)] [] := by
  intro n
  induction n with
  | zero => intro J x3 x5 x7 x9 x11 h; cases h
  | succ n ih => intro J x3 x5 x7 x9 x11 h; exact w_Mo_armOf_95b C ha0 ih h
set_option maxRecDepth 20000 in
theorem w_Mo_armOf_87 {X : HX} {ad : Nat → Nat} {I : HI} {J : HJ} {N : HN} {r : HJ} {a0 : Nat} {p1 : Int32} {x3 : Int64} {x5 : Int64} {x7 : Int64} {bs0 : Nat} {s1 : Int32} {s2 : Int32} (C : Cx X c_Mo_armOf RX11 12 none rm_Mo_armOf) (ha0 : gk Tm nM a0 (0, 11)) (hbs0 : ga Tm nM bs0 1)
    (h : Mo_armOf_87 I N a0 p1 J x3 x5 x7 bs0 s1 s2 = some r) : G Tm X ad nM 0 0 I J N (gE X Tm ad nM (I, r, N, fun _ => none)) 87 12 [(0, .ref (ad a0)), (3, .long x3), (5, .long x5), (7, .long x7)] [.int s2, .int s1, .ref (ad bs0)] := by
  refine g_iadd (pc := 87) C d_Mo_armOf_87 ?_
  obtain ⟨hi1, h⟩ := o_gd h
  refine g_iald (pc := 88) C hbs0 hi1 d_Mo_armOf_88 ?_
  refine g_i2l (pc := 89) C d_Mo_armOf_89 ?_
  obtain ⟨v2, ev2, h⟩ := o_bd h
  refine g_topl ev2 ?_
  refine g_lstore (pc := 90) (lv' := [(9, .long v2), (0, .ref (ad a0)), (3, .long x3), (5, .long x5), (7, .long x7)]) C d_Mo_armOf_90 (by decide) rfl ?_
  refine g_iconst (pc := 92) C (0 : Int32) d_Mo_armOf_92 (by decide) ?_
  refine g_istore (pc := 93) (lv' := [(11, .int (0 : Int32)), (9, .long v2), (0, .ref (ad a0)), (3, .long x3), (5, .long x5), (7, .long x7)]) C d_Mo_armOf_93 (by decide) rfl ?_
  refine g_lv [2, 3, 4, 5, 1, 0] rfl ?_
  exact w_Mo_armOf_95 C ha0 _ _ _ _ _ _ _ h
set_option maxRecDepth 20000 in
theorem w_Mo_armOf_66 {X : HX} {ad : Nat → Nat} {I : HI} {J : HJ} {N : HN} {r : HJ} {a0 : Nat} {p1 : Int32} {x2 : Int32} {x3 : Int64} {x5 : Int64} {bs0 : Nat} {s1 : Int32} {s2 : Int32} (C : Cx X c_Mo_armOf RX11 12 none rm_Mo_armOf) (ha0 : gk Tm nM a0 (0, 11)) (hbs0 : ga Tm nM bs0 1)
    (h : Mo_armOf_66 I N a0 p1 J x2 x3 x5 bs0 s1 s2 = some r) : G Tm X ad nM 0 0 I J N (gE X Tm ad nM (I, r, N, fun _ => none)) 66 12 [(0, .ref (ad a0)), (1, .int p1), (2, .int x2), (3, .long x3), (5, .long x5)] [.int s2, .int s1, .ref (ad bs0)] := by
  refine g_iadd (pc := 66) C d_Mo_armOf_66 ?_
  obtain ⟨hi1, h⟩ := o_gd h
  refine g_iald (pc := 67) C hbs0 hi1 d_Mo_armOf_67 ?_
  refine g_i2l (pc := 68) C d_Mo_armOf_68 ?_
  obtain ⟨v2, ev2, h⟩ := o_bd h
  refine g_topl ev2 ?_
  refine g_lstore (pc := 69) (lv' := [(7, .long v2), (0, .ref (ad a0)), (1, .int p1), (2, .int x2), (3, .long x3), (5, .long x5)]) C d_Mo_armOf_69 (by decide) rfl ?_
  refine g_aload_n (pc := 71) C d_Mo_armOf_71 rfl 1 rfl ?_
  obtain ⟨b3, hnb3, hb3, h⟩ := o_ra h
  refine g_get (pc := 72) (k := 5) (v := va_rf ((N a0 5).map ad)) C gcX11 inX11 (by decide) fl_Mo_23 ha0 rfl d_Mo_armOf_72 ?_
  refine g_top (g_rf hnb3) ?_
  refine g_iconst (pc := 75) C (5 : Int32) d_Mo_armOf_75 (by decide) ?_
  refine g_iload_n (pc := 76) C d_Mo_armOf_76 rfl 2 rfl ?_
  refine g_imul (pc := 77) C d_Mo_armOf_77 ?_
  refine g_iload_n (pc := 78) C d_Mo_armOf_78 rfl 3 rfl ?_
  refine g_if_ne (pc := 79) C 86 d_Mo_armOf_79 rfl (fun e4 => ?_) (fun e4 => ?_)
  · have h := o_neg e4 h
    refine g_iconst (pc := 86) C (2 : Int32) d_Mo_armOf_86 (by decide) ?_
    refine g_lv [1, 4, 5, 0] rfl ?_
    exact w_Mo_armOf_87 C ha0 hb3 h
  · have h := o_pos e4 h
    refine g_iconst (pc := 82) C (4 : Int32) d_Mo_armOf_82 (by decide) ?_
    refine g_goto (pc := 83) C 87 d_Mo_armOf_83 rfl ?_
    refine g_lv [1, 4, 5, 0] rfl ?_
    exact w_Mo_armOf_87 C ha0 hb3 h
set_option maxRecDepth 20000 in
theorem w_Mo_armOf_45 {X : HX} {ad : Nat → Nat} {I : HI} {J : HJ} {N : HN} {r : HJ} {a0 : Nat} {p1 : Int32} {x2 : Int32} {x3 : Int64} {bs0 : Nat} {s1 : Int32} {s2 : Int32} (C : Cx X c_Mo_armOf RX11 12 none rm_Mo_armOf) (ha0 : gk Tm nM a0 (0, 11)) (hbs0 : ga Tm nM bs0 1)
    (h : Mo_armOf_45 I N a0 p1 J x2 x3 bs0 s1 s2 = some r) : G Tm X ad nM 0 0 I J N (gE X Tm ad nM (I, r, N, fun _ => none)) 45 12 [(0, .ref (ad a0)), (1, .int p1), (2, .int x2), (3, .long x3)] [.int s2, .int s1, .ref (ad bs0)] := by
  refine g_iadd (pc := 45) C d_Mo_armOf_45 ?_
  obtain ⟨hi1, h⟩ := o_gd h
  refine g_iald (pc := 46) C hbs0 hi1 d_Mo_armOf_46 ?_
  refine g_i2l (pc := 47) C d_Mo_armOf_47 ?_
  obtain ⟨v2, ev2, h⟩ := o_bd h
  refine g_topl ev2 ?_
  refine g_lstore (pc := 48) (lv' := [(5, .long v2), (0, .ref (ad a0)), (1, .int p1), (2, .int x2), (3, .long x3)]) C d_Mo_armOf_48 (by decide) rfl ?_
  refine g_aload_n (pc := 50) C d_Mo_armOf_50 rfl 1 rfl ?_
  obtain ⟨b3, hnb3, hb3, h⟩ := o_ra h
  refine g_get (pc := 51) (k := 5) (v := va_rf ((N a0 5).map ad)) C gcX11 inX11 (by decide) fl_Mo_23 ha0 rfl d_Mo_armOf_51 ?_
  refine g_top (g_rf hnb3) ?_
  refine g_iconst (pc := 54) C (5 : Int32) d_Mo_armOf_54 (by decide) ?_
  refine g_iload_n (pc := 55) C d_Mo_armOf_55 rfl 2 rfl ?_
  refine g_imul (pc := 56) C d_Mo_armOf_56 ?_
  refine g_iload_n (pc := 57) C d_Mo_armOf_57 rfl 3 rfl ?_
  refine g_if_ne (pc := 58) C 65 d_Mo_armOf_58 rfl (fun e4 => ?_) (fun e4 => ?_)
  · have h := o_neg e4 h
    refine g_iconst (pc := 65) C (1 : Int32) d_Mo_armOf_65 (by decide) ?_
    refine g_lv [1, 2, 3, 4, 0] rfl ?_
    exact w_Mo_armOf_66 C ha0 hb3 h
  · have h := o_pos e4 h
    refine g_iconst (pc := 61) C (3 : Int32) d_Mo_armOf_61 (by decide) ?_
    refine g_goto (pc := 62) C 66 d_Mo_armOf_62 rfl ?_
    refine g_lv [1, 2, 3, 4, 0] rfl ?_
    exact w_Mo_armOf_66 C ha0 hb3 h
set_option maxRecDepth 20000 in
theorem w_Mo_armOf_25 {X : HX} {ad : Nat → Nat} {I : HI} {J : HJ} {N : HN} {r : HJ} {a0 : Nat} {p1 : Int32} {x2 : Int32} {bs0 : Nat} {s1 : Int32} {s2 : Int32} (C : Cx X c_Mo_armOf RX11 12 none rm_Mo_armOf) (ha0 : gk Tm nM a0 (0, 11)) (hbs0 : ga Tm nM bs0 1)
    (h : Mo_armOf_25 I N a0 p1 J x2 bs0 s1 s2 = some r) : G Tm X ad nM 0 0 I J N (gE X Tm ad nM (I, r, N, fun _ => none)) 25 12 [(0, .ref (ad a0)), (1, .int p1), (2, .int x2)] [.int s2, .int s1, .ref (ad bs0)] := by
  refine g_iadd (pc := 25) C d_Mo_armOf_25 ?_
  obtain ⟨hi1, h⟩ := o_gd h
  refine g_iald (pc := 26) C hbs0 hi1 d_Mo_armOf_26 ?_
  refine g_i2l (pc := 27) C d_Mo_armOf_27 ?_
  obtain ⟨v2, ev2, h⟩ := o_bd h
  refine g_topl ev2 ?_
  refine g_lstore_n (pc := 28) (lv' := [(3, .long v2), (0, .ref (ad a0)), (1, .int p1), (2, .int x2)]) C d_Mo_armOf_28 rfl (by decide) rfl ?_
  refine g_aload_n (pc := 29) C d_Mo_armOf_29 rfl 1 rfl ?_
  obtain ⟨b3, hnb3, hb3, h⟩ := o_ra h
  refine g_get (pc := 30) (k := 5) (v := va_rf ((N a0 5).map ad)) C gcX11 inX11 (by decide) fl_Mo_23 ha0 rfl d_Mo_armOf_30 ?_
  refine g_top (g_rf hnb3) ?_
  refine g_iconst (pc := 33) C (5 : Int32) d_Mo_armOf_33 (by decide) ?_
  refine g_iload_n (pc := 34) C d_Mo_armOf_34 rfl 2 rfl ?_
  refine g_imul (pc := 35) C d_Mo_armOf_35 ?_
  refine g_iload_n (pc := 36) C d_Mo_armOf_36 rfl 3 rfl ?_
  refine g_if_ne (pc := 37) C 44 d_Mo_armOf_37 rfl (fun e4 => ?_) (fun e4 => ?_)
  · have h := o_neg e4 h
    refine g_iconst (pc := 44) C (4 : Int32) d_Mo_armOf_44 (by decide) ?_
    refine g_lv [1, 2, 3, 0] rfl ?_
    exact w_Mo_armOf_45 C ha0 hb3 h
  · have h := o_pos e4 h
    refine g_iconst (pc := 40) C (2 : Int32) d_Mo_armOf_40 (by decide) ?_
    refine g_goto (pc := 41) C 45 d_Mo_armOf_41 rfl ?_
    refine g_lv [1, 2, 3, 0] rfl ?_
    exact w_Mo_armOf_45 C ha0 hb3 h
set_option maxRecDepth 20000 in
theorem w_Mo_armOf_0 {X : HX} {ad : Nat → Nat} {I : HI} {J : HJ} {N : HN} {r : HJ} {a0 : Nat} {p1 : Int32} (C : Cx X c_Mo_armOf RX11 12 none rm_Mo_armOf) (ha0 : gk Tm nM a0 (0, 11))
    (h : Mo_armOf_0 I N a0 p1 J = some r) : G Tm X ad nM 0 0 I J N (gE X Tm ad nM (I, r, N, fun _ => none)) 0 12 [(0, .ref (ad a0)), (1, .int p1)] [] := by
  refine g_aload_n (pc := 0) C d_Mo_armOf_0 rfl 0 rfl ?_
  obtain ⟨b1, hnb1, hb1, h⟩ := o_ra h
  refine g_get (pc := 1) (k := 5) (v := va_rf ((N a0 5).map ad)) C gcX11 inX11 (by decide) fl_Mo_23 ha0 rfl d_Mo_armOf_1 ?_
  refine g_top (g_rf hnb1) ?_
  refine g_iconst (pc := 4) C (5 : Int32) d_Mo_armOf_4 (by decide) ?_
  refine g_iload_n (pc := 5) C d_Mo_armOf_5 rfl 1 rfl ?_
  refine g_imul (pc := 6) C d_Mo_armOf_6 ?_
  obtain ⟨hi2, h⟩ := o_gd h
  refine g_iald (pc := 7) C hb1 hi2 d_Mo_armOf_7 ?_
  obtain ⟨v3, ev3, h⟩ := o_bd h
  refine g_topi ev3 ?_
  refine g_istore_n (pc := 8) (lv' := [(2, .int v3), (0, .ref (ad a0)), (1, .int p1)]) C d_Mo_armOf_8 rfl (by decide) rfl ?_
  refine g_aload_n (pc := 9) C d_Mo_armOf_9 rfl 1 rfl ?_
  obtain ⟨b4, hnb4, hb4, h⟩ := o_ra h
  refine g_get (pc := 10) (k := 5) (v := va_rf ((N a0 5).map ad)) C gcX11 inX11 (by decide) fl_Mo_23 ha0 rfl d_Mo_armOf_10 ?_
  refine g_top (g_rf hnb4) ?_
  refine g_iconst (pc := 13) C (5 : Int32) d_Mo_armOf_13 (by decide) ?_
  refine g_iload_n (pc := 14) C d_Mo_armOf_14 rfl 2 rfl ?_
  refine g_imul (pc := 15) C d_Mo_armOf_15 ?_
  refine g_iload_n (pc := 16) C d_Mo_armOf_16 rfl 0 rfl ?_
  refine g_if_ne (pc := 17) C 24 d_Mo_armOf_17 rfl (fun e5 => ?_) (fun e5 => ?_)
  · have h := o_neg e5 h
    refine g_iconst (pc := 24) C (3 : Int32) d_Mo_armOf_24 (by decide) ?_
    refine g_lv [1, 2, 0] rfl ?_
    exact w_Mo_armOf_25 C ha0 hb4 h
  · have h := o_pos e5 h
    refine g_iconst (pc := 20) C (1 : Int32) d_Mo_armOf_20 (by decide) ?_
    refine g_goto (pc := 21) C 25 d_Mo_armOf_21 rfl ?_
    refine g_lv [1, 2, 0] rfl ?_
    exact w_Mo_armOf_25 C ha0 hb4 h
set_option maxRecDepth 20000 in
theorem k_Mo_armOf (l : Launch) {I : HI} {J : HJ} {N : HN} {a0 : Nat} {p1 : Int32} {r : HJ} (ha0 : gk Tm nM a0 (0, 11)) (h : Mo_armOf I N a0 p1 J = some r) : gM l y_Mo_armOf c_Mo_armOf 12 none rm_Mo_armOf Tm nM I J N (fun ad => [.ref (ad a0), .int p1]) (I, r, N, fun _ => none) :=
  g_meth (lv := fun ad => [(0, .ref (ad a0)), (1, .int p1)]) (by decide) (fun _ => Nat.le_of_ble_eq_true rfl) (fun _ => rfl) (fun X ad C => g_lv [0, 1] rfl (w_Mo_armOf_0 C ha0 h))
theorem d_Mo_turnsOver_0 : decode c_Mo_turnsOver 0 = .ok (.iconst 0, 1) := by decide +kernel
theorem d_Mo_turnsOver_1 : decode c_Mo_turnsOver 1 = .ok (.istore_n 1, 1) := by decide +kernel
theorem d_Mo_turnsOver_2 : decode c_Mo_turnsOver 2 = .ok (.iload_n 1, 1) := by decide +kernel
theorem d_Mo_turnsOver_3 : decode c_Mo_turnsOver 3 = .ok (.bipush 14, 2) := by decide +kernel
theorem d_Mo_turnsOver_5 : decode c_Mo_turnsOver 5 = .ok (.if_icmp .ge 35, 3) := by decide +kernel
theorem d_Mo_turnsOver_8 : decode c_Mo_turnsOver 8 = .ok (.aload_n 0, 1) := by decide +kernel
theorem d_Mo_turnsOver_9 : decode c_Mo_turnsOver 9 = .ok (.getfield 56, 3) := by decide +kernel
theorem d_Mo_turnsOver_12 : decode c_Mo_turnsOver 12 = .ok (.iload_n 1, 1) := by decide +kernel
theorem d_Mo_turnsOver_13 : decode c_Mo_turnsOver 13 = .ok (.laload, 1) := by decide +kernel
theorem d_Mo_turnsOver_14 : decode c_Mo_turnsOver 14 = .ok (.lstore_n 2, 1) := by decide +kernel
theorem d_Mo_turnsOver_15 : decode c_Mo_turnsOver 15 = .ok (.aload_n 0, 1) := by decide +kernel
theorem d_Mo_turnsOver_16 : decode c_Mo_turnsOver 16 = .ok (.getfield 56, 3) := by decide +kernel
theorem d_Mo_turnsOver_19 : decode c_Mo_turnsOver 19 = .ok (.iload_n 1, 1) := by decide +kernel
theorem d_Mo_turnsOver_20 : decode c_Mo_turnsOver 20 = .ok (.aload_n 0, 1) := by decide +kernel
theorem d_Mo_turnsOver_21 : decode c_Mo_turnsOver 21 = .ok (.getfield 59, 3) := by decide +kernel
theorem d_Mo_turnsOver_24 : decode c_Mo_turnsOver 24 = .ok (.iload_n 1, 1) := by decide +kernel
theorem d_Mo_turnsOver_25 : decode c_Mo_turnsOver 25 = .ok (.laload, 1) := by decide +kernel
theorem d_Mo_turnsOver_26 : decode c_Mo_turnsOver 26 = .ok (.lastore, 1) := by decide +kernel
theorem d_Mo_turnsOver_27 : decode c_Mo_turnsOver 27 = .ok (.aload_n 0, 1) := by decide +kernel
theorem d_Mo_turnsOver_28 : decode c_Mo_turnsOver 28 = .ok (.getfield 59, 3) := by decide +kernel
theorem d_Mo_turnsOver_31 : decode c_Mo_turnsOver 31 = .ok (.iload_n 1, 1) := by decide +kernel
theorem d_Mo_turnsOver_32 : decode c_Mo_turnsOver 32 = .ok (.lload_n 2, 1) := by decide +kernel
theorem d_Mo_turnsOver_33 : decode c_Mo_turnsOver 33 = .ok (.lastore, 1) := by decide +kernel
theorem d_Mo_turnsOver_34 : decode c_Mo_turnsOver 34 = .ok (.iinc 1 1, 3) := by decide +kernel
theorem d_Mo_turnsOver_37 : decode c_Mo_turnsOver 37 = .ok (.goto (-35), 3) := by decide +kernel
theorem d_Mo_turnsOver_40 : decode c_Mo_turnsOver 40 = .ok (.return_, 1) := by decide +kernel
set_option maxRecDepth 20000 in
theorem w_Mo_turnsOver_2b {X : HX} {ad : Nat → Nat} {I : HI} {J : HJ} {N : HN} {r : HJ} {k2 : HJ → Int32 → Option (HJ)} {a0 : Nat} {x1 : Int32} (C : Cx X c_Mo_turnsOver RX11 4 none rm_Mo_turnsOver) (ha0 : gk Tm nM a0 (0, 11))
    (hk2 : ∀ (J : HJ) (x1 : Int32), k2 J x1 = some r → G Tm X ad nM 0 0 I J N (gE X Tm ad nM (I, r, N, fun _ => none)) 2 4 [(0, .ref (ad a0)), (1, .int x1)] [])
    (h : Mo_turnsOver_2b N a0 k2 J x1 = some r) : G Tm X ad nM 0 0 I J N (gE X Tm ad nM (I, r, N, fun _ => none)) 2 4 [(0, .ref (ad a0)), (1, .int x1)] [] := by
  refine g_iload_n (pc := 2) C d_Mo_turnsOver_2 rfl 1 rfl ?_
  refine g_bipush (pc := 3) C (14 : Int32) d_Mo_turnsOver_3 (by decide) ?_
  refine g_icmp_ge (pc := 5) C 40 d_Mo_turnsOver_5 rfl (fun e1 => ?_) (fun e1 => ?_)
  · have h := o_pos e1 h
    obtain rfl := o_ret h
    exact g_vret (pc := 40) C d_Mo_turnsOver_40
  · have h := o_neg e1 h
    refine g_aload_n (pc := 8) C d_Mo_turnsOver_8 rfl 0 rfl ?_
    obtain ⟨b2, hnb2, hb2, h⟩ := o_ra h
    refine g_get (pc := 9) (k := 23) (v := va_rf ((N a0 23).map ad)) C gcX11 inX11 (by decide) fl_Mo_56 ha0 rfl d_Mo_turnsOver_9 ?_
    refine g_top (g_rf hnb2) ?_
    refine g_iload_n (pc := 12) C d_Mo_turnsOver_12 rfl 1 rfl ?_
    obtain ⟨hi3, h⟩ := o_gd h
    refine g_lald (pc := 13) C hb2 hi3 d_Mo_turnsOver_13 ?_
    obtain ⟨v4, ev4, h⟩ := o_bd h
    refine g_topl ev4 ?_
    refine g_lstore_n (pc := 14) (lv' := [(2, .long v4), (0, .ref (ad a0)), (1, .int x1)]) C d_Mo_turnsOver_14 rfl (by decide) rfl ?_
    refine g_aload_n (pc := 15) C d_Mo_turnsOver_15 rfl 1 rfl ?_
    obtain ⟨b5, hnb5, hb5, h⟩ := o_ra h
    refine g_get (pc := 16) (k := 23) (v := va_rf ((N a0 23).map ad)) C gcX11 inX11 (by decide) fl_Mo_56 ha0 rfl d_Mo_turnsOver_16 ?_
    refine g_top (g_rf hnb5) ?_
    refine g_iload_n (pc := 19) C d_Mo_turnsOver_19 rfl 2 rfl ?_
    refine g_aload_n (pc := 20) C d_Mo_turnsOver_20 rfl 1 rfl ?_
    obtain ⟨b6, hnb6, hb6, h⟩ := o_ra h
    refine g_get (pc := 21) (k := 24) (v := va_rf ((N a0 24).map ad)) C gcX11 inX11 (by decide) fl_Mo_59 ha0 rfl d_Mo_turnsOver_21 ?_
    refine g_top (g_rf hnb6) ?_
    refine g_iload_n (pc := 24) C d_Mo_turnsOver_24 rfl 2 rfl ?_
    obtain ⟨hi7, h⟩ := o_gd h
    refine g_lald (pc := 25) C hb6 hi7 d_Mo_turnsOver_25 ?_
    obtain ⟨hi8, h⟩ := o_gd h
    refine g_last (pc := 26) C hb5 hi8 d_Mo_turnsOver_26 ?_
    obtain ⟨J9, eJ9, h⟩ := o_bd h
    rw [← eJ9]
    refine g_aload_n (pc := 27) C d_Mo_turnsOver_27 rfl 1 rfl ?_
    obtain ⟨b10, hnb10, hb10, h⟩ := o_ra h
    refine g_get (pc := 28) (k := 24) (v := va_rf ((N a0 24).map ad)) C gcX11 inX11 (by decide) fl_Mo_59 ha0 rfl d_Mo_turnsOver_28 ?_
    refine g_top (g_rf hnb10) ?_
    refine g_iload_n (pc := 31) C d_Mo_turnsOver_31 rfl 2 rfl ?_
    refine g_lload_n (pc := 32) C d_Mo_turnsOver_32 rfl 0 rfl ?_
    obtain ⟨hi11, h⟩ := o_gd h
    refine g_last (pc := 33) C hb10 hi11 d_Mo_turnsOver_33 ?_
    obtain ⟨J12, eJ12, h⟩ := o_bd h
    rw [← eJ12]
    refine g_iinc (pc := 34) (q := 2) (lv' := [(1, .int (x1 + 1)), (2, .long v4), (0, .ref (ad a0))]) C d_Mo_turnsOver_34 rfl rfl (by decide) rfl ?_
    refine g_goto (pc := 37) C 2 d_Mo_turnsOver_37 rfl ?_
    refine g_lv [2, 0] rfl ?_
    exact hk2 _ _ h
set_option maxRecDepth 20000 in
theorem w_Mo_turnsOver_2 {X : HX} {ad : Nat → Nat} {I : HI} {N : HN} {r : HJ} {a0 : Nat} (C : Cx X c_Mo_turnsOver RX11 4 none rm_Mo_turnsOver) (ha0 : gk Tm nM a0 (0, 11)) : ∀ (n : Nat) (J : HJ) (x1 : Int32), Mo_turnsOver_2 N a0 n J x1 = some r → G Tm X ad nM 0 0 I J N (gE X Tm ad nM (I, r, N, fun _ => none)) 2 4 [(0, .ref (ad a0)), (1, .int x1)] [] := by
  intro n
  induction n with
  | zero => intro J x1 h; cases h
  | succ n ih => intro J x1 h; exact w_Mo_turnsOver_2b C ha0 ih h
set_option maxRecDepth 20000 in
theorem w_Mo_turnsOver_0 {X : HX} {ad : Nat → Nat} {I : HI} {J : HJ} {N : HN} {r : HJ} {a0 : Nat} (C : Cx X c_Mo_turnsOver RX11 4 none rm_Mo_turnsOver) (ha0 : gk Tm nM a0 (0, 11))
    (h : Mo_turnsOver_0 N a0 J = some r) : G Tm X ad nM 0 0 I J N (gE X Tm ad nM (I, r, N, fun _ => none)) 0 4 [(0, .ref (ad a0))] [] := by
  refine g_iconst (pc := 0) C (0 : Int32) d_Mo_turnsOver_0 (by decide) ?_
  refine g_istore_n (pc := 1) (lv' := [(1, .int (0 : Int32)), (0, .ref (ad a0))]) C d_Mo_turnsOver_1 rfl (by decide) rfl ?_
  refine g_lv [1, 0] rfl ?_
  exact w_Mo_turnsOver_2 C ha0 _ _ _ h
set_option maxRecDepth 20000 in
theorem k_Mo_turnsOver (l : Launch) {I : HI} {J : HJ} {N : HN} {a0 : Nat} {r : HJ} (ha0 : gk Tm nM a0 (0, 11)) (h : Mo_turnsOver N a0 J = some r) : gM l y_Mo_turnsOver c_Mo_turnsOver 4 none rm_Mo_turnsOver Tm nM I J N (fun ad => [.ref (ad a0)]) (I, r, N, fun _ => none) :=
  g_meth (lv := fun ad => [(0, .ref (ad a0))]) (by decide) (fun _ => Nat.le_of_ble_eq_true rfl) (fun _ => rfl) (fun X ad C => g_lv [0] rfl (w_Mo_turnsOver_0 C ha0 h))
theorem d_Mo_asPair_0 : decode c_Mo_asPair 0 = .ok (.lconst 0, 1) := by decide +kernel
theorem d_Mo_asPair_1 : decode c_Mo_asPair 1 = .ok (.lstore_n 1, 1) := by decide +kernel
theorem d_Mo_asPair_2 : decode c_Mo_asPair 2 = .ok (.lconst 0, 1) := by decide +kernel
theorem d_Mo_asPair_3 : decode c_Mo_asPair 3 = .ok (.lstore_n 3, 1) := by decide +kernel
theorem d_Mo_asPair_4 : decode c_Mo_asPair 4 = .ok (.iconst 0, 1) := by decide +kernel
theorem d_Mo_asPair_5 : decode c_Mo_asPair 5 = .ok (.istore 5, 2) := by decide +kernel
theorem d_Mo_asPair_7 : decode c_Mo_asPair 7 = .ok (.iload 5, 2) := by decide +kernel
theorem d_Mo_asPair_9 : decode c_Mo_asPair 9 = .ok (.bipush 14, 2) := by decide +kernel
theorem d_Mo_asPair_11 : decode c_Mo_asPair 11 = .ok (.if_icmp .ge 57, 3) := by decide +kernel
theorem d_Mo_asPair_14 : decode c_Mo_asPair 14 = .ok (.lload_n 1, 1) := by decide +kernel
theorem d_Mo_asPair_15 : decode c_Mo_asPair 15 = .ok (.aload_n 0, 1) := by decide +kernel
theorem d_Mo_asPair_16 : decode c_Mo_asPair 16 = .ok (.getfield 56, 3) := by decide +kernel
theorem d_Mo_asPair_19 : decode c_Mo_asPair 19 = .ok (.iload 5, 2) := by decide +kernel
theorem d_Mo_asPair_21 : decode c_Mo_asPair 21 = .ok (.laload, 1) := by decide +kernel
theorem d_Mo_asPair_22 : decode c_Mo_asPair 22 = .ok (.invokestatic 152, 3) := by decide +kernel
theorem d_Mo_asPair_25 : decode c_Mo_asPair 25 = .ok (.lstore_n 1, 1) := by decide +kernel
theorem d_Mo_asPair_26 : decode c_Mo_asPair 26 = .ok (.lload_n 1, 1) := by decide +kernel
theorem d_Mo_asPair_27 : decode c_Mo_asPair 27 = .ok (.aload_n 0, 1) := by decide +kernel
theorem d_Mo_asPair_28 : decode c_Mo_asPair 28 = .ok (.getfield 59, 3) := by decide +kernel
theorem d_Mo_asPair_31 : decode c_Mo_asPair 31 = .ok (.iload 5, 2) := by decide +kernel
theorem d_Mo_asPair_33 : decode c_Mo_asPair 33 = .ok (.laload, 1) := by decide +kernel
theorem d_Mo_asPair_34 : decode c_Mo_asPair 34 = .ok (.invokestatic 152, 3) := by decide +kernel
theorem d_Mo_asPair_37 : decode c_Mo_asPair 37 = .ok (.lstore_n 1, 1) := by decide +kernel
theorem d_Mo_asPair_38 : decode c_Mo_asPair 38 = .ok (.aload_n 0, 1) := by decide +kernel
theorem d_Mo_asPair_39 : decode c_Mo_asPair 39 = .ok (.getfield 59, 3) := by decide +kernel
theorem d_Mo_asPair_42 : decode c_Mo_asPair 42 = .ok (.iload 5, 2) := by decide +kernel
theorem d_Mo_asPair_44 : decode c_Mo_asPair 44 = .ok (.laload, 1) := by decide +kernel
theorem d_Mo_asPair_45 : decode c_Mo_asPair 45 = .ok (.lconst 0, 1) := by decide +kernel
theorem d_Mo_asPair_46 : decode c_Mo_asPair 46 = .ok (.lcmp, 1) := by decide +kernel
theorem d_Mo_asPair_47 : decode c_Mo_asPair 47 = .ok (.ifCond .eq 13, 3) := by decide +kernel
theorem d_Mo_asPair_50 : decode c_Mo_asPair 50 = .ok (.aload_n 0, 1) := by decide +kernel
theorem d_Mo_asPair_51 : decode c_Mo_asPair 51 = .ok (.getfield 59, 3) := by decide +kernel
theorem d_Mo_asPair_54 : decode c_Mo_asPair 54 = .ok (.iload 5, 2) := by decide +kernel
theorem d_Mo_asPair_56 : decode c_Mo_asPair 56 = .ok (.laload, 1) := by decide +kernel
theorem d_Mo_asPair_57 : decode c_Mo_asPair 57 = .ok (.goto 4, 3) := by decide +kernel
theorem d_Mo_asPair_60 : decode c_Mo_asPair 60 = .ok (.lload_n 3, 1) := by decide +kernel
theorem d_Mo_asPair_61 : decode c_Mo_asPair 61 = .ok (.lstore_n 3, 1) := by decide +kernel
theorem d_Mo_asPair_62 : decode c_Mo_asPair 62 = .ok (.iinc 5 1, 3) := by decide +kernel
theorem d_Mo_asPair_65 : decode c_Mo_asPair 65 = .ok (.goto (-58), 3) := by decide +kernel
theorem d_Mo_asPair_68 : decode c_Mo_asPair 68 = .ok (.iconst 0, 1) := by decide +kernel
theorem d_Mo_asPair_69 : decode c_Mo_asPair 69 = .ok (.istore 5, 2) := by decide +kernel
theorem d_Mo_asPair_71 : decode c_Mo_asPair 71 = .ok (.iload 5, 2) := by decide +kernel
theorem d_Mo_asPair_73 : decode c_Mo_asPair 73 = .ok (.bipush 14, 2) := by decide +kernel
theorem d_Mo_asPair_75 : decode c_Mo_asPair 75 = .ok (.if_icmp .ge 26, 3) := by decide +kernel
theorem d_Mo_asPair_78 : decode c_Mo_asPair 78 = .ok (.lload_n 3, 1) := by decide +kernel
theorem d_Mo_asPair_79 : decode c_Mo_asPair 79 = .ok (.lconst 0, 1) := by decide +kernel
theorem d_Mo_asPair_80 : decode c_Mo_asPair 80 = .ok (.lcmp, 1) := by decide +kernel
theorem d_Mo_asPair_81 : decode c_Mo_asPair 81 = .ok (.ifCond .ne 20, 3) := by decide +kernel
theorem d_Mo_asPair_84 : decode c_Mo_asPair 84 = .ok (.aload_n 0, 1) := by decide +kernel
theorem d_Mo_asPair_85 : decode c_Mo_asPair 85 = .ok (.getfield 56, 3) := by decide +kernel
theorem d_Mo_asPair_88 : decode c_Mo_asPair 88 = .ok (.bipush 13, 2) := by decide +kernel
theorem d_Mo_asPair_90 : decode c_Mo_asPair 90 = .ok (.iload 5, 2) := by decide +kernel
theorem d_Mo_asPair_92 : decode c_Mo_asPair 92 = .ok (.isub, 1) := by decide +kernel
theorem d_Mo_asPair_93 : decode c_Mo_asPair 93 = .ok (.laload, 1) := by decide +kernel
theorem d_Mo_asPair_94 : decode c_Mo_asPair 94 = .ok (.lstore_n 3, 1) := by decide +kernel
theorem d_Mo_asPair_95 : decode c_Mo_asPair 95 = .ok (.iinc 5 1, 3) := by decide +kernel
theorem d_Mo_asPair_98 : decode c_Mo_asPair 98 = .ok (.goto (-27), 3) := by decide +kernel
theorem d_Mo_asPair_101 : decode c_Mo_asPair 101 = .ok (.lload_n 3, 1) := by decide +kernel
theorem d_Mo_asPair_102 : decode c_Mo_asPair 102 = .ok (.lconst 0, 1) := by decide +kernel
theorem d_Mo_asPair_103 : decode c_Mo_asPair 103 = .ok (.lcmp, 1) := by decide +kernel
theorem d_Mo_asPair_104 : decode c_Mo_asPair 104 = .ok (.ifCond .ge 9, 3) := by decide +kernel
theorem d_Mo_asPair_107 : decode c_Mo_asPair 107 = .ok (.lconst 0, 1) := by decide +kernel
theorem d_Mo_asPair_108 : decode c_Mo_asPair 108 = .ok (.lload_n 1, 1) := by decide +kernel
theorem d_Mo_asPair_109 : decode c_Mo_asPair 109 = .ok (.lsub, 1) := by decide +kernel
theorem d_Mo_asPair_110 : decode c_Mo_asPair 110 = .ok (.goto 4, 3) := by decide +kernel
theorem d_Mo_asPair_113 : decode c_Mo_asPair 113 = .ok (.lload_n 1, 1) := by decide +kernel
theorem d_Mo_asPair_114 : decode c_Mo_asPair 114 = .ok (.lstore_n 1, 1) := by decide +kernel
theorem d_Mo_asPair_115 : decode c_Mo_asPair 115 = .ok (.iconst 0, 1) := by decide +kernel
theorem d_Mo_asPair_116 : decode c_Mo_asPair 116 = .ok (.istore 5, 2) := by decide +kernel
theorem d_Mo_asPair_118 : decode c_Mo_asPair 118 = .ok (.iload 5, 2) := by decide +kernel
theorem d_Mo_asPair_120 : decode c_Mo_asPair 120 = .ok (.bipush 14, 2) := by decide +kernel
theorem d_Mo_asPair_122 : decode c_Mo_asPair 122 = .ok (.if_icmp .ge 37, 3) := by decide +kernel
theorem d_Mo_asPair_125 : decode c_Mo_asPair 125 = .ok (.lload_n 1, 1) := by decide +kernel
theorem d_Mo_asPair_126 : decode c_Mo_asPair 126 = .ok (.lconst 0, 1) := by decide +kernel
theorem d_Mo_asPair_127 : decode c_Mo_asPair 127 = .ok (.lcmp, 1) := by decide +kernel
theorem d_Mo_asPair_128 : decode c_Mo_asPair 128 = .ok (.ifCond .eq 31, 3) := by decide +kernel
theorem d_Mo_asPair_131 : decode c_Mo_asPair 131 = .ok (.aload_n 0, 1) := by decide +kernel
theorem d_Mo_asPair_132 : decode c_Mo_asPair 132 = .ok (.getfield 56, 3) := by decide +kernel
theorem d_Mo_asPair_135 : decode c_Mo_asPair 135 = .ok (.iload 5, 2) := by decide +kernel
theorem d_Mo_asPair_137 : decode c_Mo_asPair 137 = .ok (.dup2, 1) := by decide +kernel
theorem d_Mo_asPair_138 : decode c_Mo_asPair 138 = .ok (.laload, 1) := by decide +kernel
theorem d_Mo_asPair_139 : decode c_Mo_asPair 139 = .ok (.lload_n 1, 1) := by decide +kernel
theorem d_Mo_asPair_140 : decode c_Mo_asPair 140 = .ok (.ldiv, 1) := by decide +kernel
theorem d_Mo_asPair_141 : decode c_Mo_asPair 141 = .ok (.lastore, 1) := by decide +kernel
theorem d_Mo_asPair_142 : decode c_Mo_asPair 142 = .ok (.aload_n 0, 1) := by decide +kernel
theorem d_Mo_asPair_143 : decode c_Mo_asPair 143 = .ok (.getfield 59, 3) := by decide +kernel
theorem d_Mo_asPair_146 : decode c_Mo_asPair 146 = .ok (.iload 5, 2) := by decide +kernel
theorem d_Mo_asPair_148 : decode c_Mo_asPair 148 = .ok (.dup2, 1) := by decide +kernel
theorem d_Mo_asPair_149 : decode c_Mo_asPair 149 = .ok (.laload, 1) := by decide +kernel
theorem d_Mo_asPair_150 : decode c_Mo_asPair 150 = .ok (.lload_n 1, 1) := by decide +kernel
theorem d_Mo_asPair_151 : decode c_Mo_asPair 151 = .ok (.ldiv, 1) := by decide +kernel
theorem d_Mo_asPair_152 : decode c_Mo_asPair 152 = .ok (.lastore, 1) := by decide +kernel
theorem d_Mo_asPair_153 : decode c_Mo_asPair 153 = .ok (.iinc 5 1, 3) := by decide +kernel
theorem d_Mo_asPair_156 : decode c_Mo_asPair 156 = .ok (.goto (-38), 3) := by decide +kernel
theorem d_Mo_asPair_159 : decode c_Mo_asPair 159 = .ok (.return_, 1) := by decide +kernel
set_option maxRecDepth 20000 in
theorem w_Mo_asPair_118b {X : HX} {ad : Nat → Nat} {I : HI} {J : HJ} {N : HN} {r : HJ} {k118 : HJ → Int64 → Int32 → Option (HJ)} {a0 : Nat} {x1 : Int64} {x5 : Int32} (C : Cx X c_Mo_asPair RX11 6 none rm_Mo_asPair) (ha0 : gk Tm nM a0 (0, 11))
    (hk118 : ∀ (J : HJ) (x1 : Int64) (x5 : Int32), k118 J x1 x5 = some r → G Tm X ad nM 0 0 I J N (gE X Tm ad nM (I, r, N, fun _ => none)) 118 6 [(0, .ref (ad a0)), (1, .long x1), (5, .int x5)] [])
    (h : Mo_asPair_118b N a0 k118 J x1 x5 = some r) : G Tm X ad nM 0 0 I J N (gE X Tm ad nM (I, r, N, fun _ => none)) 118 6 [(0, .ref (ad a0)), (1, .long x1), (5, .int x5)] [] := by
  refine g_iload (pc := 118) C d_Mo_asPair_118 2 rfl ?_
  refine g_bipush (pc := 120) C (14 : Int32) d_Mo_asPair_120 (by decide) ?_
  refine g_icmp_ge (pc := 122) C 159 d_Mo_asPair_122 rfl (fun e1 => ?_) (fun e1 => ?_)
  · have h := o_pos e1 h
    obtain rfl := o_ret h
    exact g_vret (pc := 159) C d_Mo_asPair_159
  · have h := o_neg e1 h
    refine g_lload_n (pc := 125) C d_Mo_asPair_125 rfl 1 rfl ?_
    refine g_lconst (pc := 126) C (0 : Int64) d_Mo_asPair_126 (by decide) ?_
    refine g_lcmp_eq (pc := 127) C 159 d_Mo_asPair_127 d_Mo_asPair_128 rfl (fun e2 => ?_) (fun e2 => ?_)
    · have h := o_pos e2 h
      obtain rfl := o_ret h
      exact g_vret (pc := 159) C d_Mo_asPair_159
    · have h := o_neg e2 h
      refine g_aload_n (pc := 131) C d_Mo_asPair_131 rfl 0 rfl ?_
      obtain ⟨b3, hnb3, hb3, h⟩ := o_ra h
      refine g_get (pc := 132) (k := 23) (v := va_rf ((N a0 23).map ad)) C gcX11 inX11 (by decide) fl_Mo_56 ha0 rfl d_Mo_asPair_132 ?_
      refine g_top (g_rf hnb3) ?_
      refine g_iload (pc := 135) C d_Mo_asPair_135 2 rfl ?_
      refine g_dup2 (pc := 137) C d_Mo_asPair_137 rfl rfl ?_
      obtain ⟨hi4, h⟩ := o_gd h
      refine g_lald (pc := 138) C hb3 hi4 d_Mo_asPair_138 ?_
      refine g_lload_n (pc := 139) C d_Mo_asPair_139 rfl 1 rfl ?_
      obtain ⟨hz5, h⟩ := o_gd h
      refine g_ldiv (pc := 140) C d_Mo_asPair_140 (of_decide_eq_true hz5) ?_
      obtain ⟨hi6, h⟩ := o_gd h
      refine g_last (pc := 141) C hb3 hi6 d_Mo_asPair_141 ?_
      obtain ⟨J7, eJ7, h⟩ := o_bd h
      rw [← eJ7]
      refine g_aload_n (pc := 142) C d_Mo_asPair_142 rfl 0 rfl ?_
      obtain ⟨b8, hnb8, hb8, h⟩ := o_ra h
      refine g_get (pc := 143) (k := 24) (v := va_rf ((N a0 24).map ad)) C gcX11 inX11 (by decide) fl_Mo_59 ha0 rfl d_Mo_asPair_143 ?_
      refine g_top (g_rf hnb8) ?_
      refine g_iload (pc := 146) C d_Mo_asPair_146 2 rfl ?_
      refine g_dup2 (pc := 148) C d_Mo_asPair_148 rfl rfl ?_
      obtain ⟨hi9, h⟩ := o_gd h
      refine g_lald (pc := 149) C hb8 hi9 d_Mo_asPair_149 ?_
      refine g_lload_n (pc := 150) C d_Mo_asPair_150 rfl 1 rfl ?_
      obtain ⟨hz10, h⟩ := o_gd h
      refine g_ldiv (pc := 151) C d_Mo_asPair_151 (of_decide_eq_true hz10) ?_
      obtain ⟨hi11, h⟩ := o_gd h
      refine g_last (pc := 152) C hb8 hi11 d_Mo_asPair_152 ?_
      obtain ⟨J12, eJ12, h⟩ := o_bd h
      rw [← eJ12]
      refine g_iinc (pc := 153) (q := 2) (lv' := [(5, .int (x5 + 1)), (0, .ref (ad a0)), (1, .long x1)]) C d_Mo_asPair_153 rfl rfl (by decide) rfl ?_
      refine g_goto (pc := 156) C 118 d_Mo_asPair_156 rfl ?_
      refine g_lv [1, 2, 0] rfl ?_
      exact hk118 _ _ _ h
set_option maxRecDepth 20000 in
theorem w_Mo_asPair_118 {X : HX} {ad : Nat → Nat} {I : HI} {N : HN} {r : HJ} {a0 : Nat} (C : Cx X c_Mo_asPair RX11 6 none rm_Mo_asPair) (ha0 : gk Tm nM a0 (0, 11)) : ∀ (n : Nat) (J : HJ) (x1 : Int64) (x5 : Int32), Mo_asPair_118 N a0 n J x1 x5 = some r → G Tm X ad nM 0 0 I J N (gE X Tm ad nM (I, r, N, fun _ => none)) 118 6 [(0, .ref (ad a0)), (1, .long x1), (5, .int x5)] [] := by
  intro n
  induction n with
  | zero => intro J x1 x5 h; cases h
  | succ n ih => intro J x1 x5 h; exact w_Mo_asPair_118b C ha0 ih h
set_option maxRecDepth 20000 in
theorem w_Mo_asPair_114 {X : HX} {ad : Nat → Nat} {I : HI} {J : HJ} {N : HN} {r : HJ} {a0 : Nat} {s0 : Int64} (C : Cx X c_Mo_asPair RX11 6 none rm_Mo_asPair) (ha0 : gk Tm nM a0 (0, 11))
    (h : Mo_asPair_114 N a0 J s0 = some r) : G Tm X ad nM 0 0 I J N (gE X Tm ad nM (I, r, N, fun _ => none)) 114 6 [(0, .ref (ad a0))] [.long s0] := by
  refine g_lstore_n (pc := 114) (lv' := [(1, .long s0), (0, .ref (ad a0))]) C d_Mo_asPair_114 rfl (by decide) rfl ?_
  refine g_iconst (pc := 115) C (0 : Int32) d_Mo_asPair_115 (by decide) ?_
  refine g_istore (pc := 116) (lv' := [(5, .int (0 : Int32)), (1, .long s0), (0, .ref (ad a0))]) C d_Mo_asPair_116 (by decide) rfl ?_
  refine g_lv [2, 1, 0] rfl ?_
  exact w_Mo_asPair_118 C ha0 _ _ _ _ h
set_option maxRecDepth 20000 in
theorem w_Mo_asPair_101 {X : HX} {ad : Nat → Nat} {I : HI} {J : HJ} {N : HN} {r : HJ} {a0 : Nat} {x1 : Int64} {x3 : Int64} (C : Cx X c_Mo_asPair RX11 6 none rm_Mo_asPair) (ha0 : gk Tm nM a0 (0, 11))
    (h : Mo_asPair_101 N a0 J x1 x3 = some r) : G Tm X ad nM 0 0 I J N (gE X Tm ad nM (I, r, N, fun _ => none)) 101 6 [(0, .ref (ad a0)), (1, .long x1), (3, .long x3)] [] := by
  refine g_lload_n (pc := 101) C d_Mo_asPair_101 rfl 2 rfl ?_
  refine g_lconst (pc := 102) C (0 : Int64) d_Mo_asPair_102 (by decide) ?_
  refine g_lcmp_ge (pc := 103) C 113 d_Mo_asPair_103 d_Mo_asPair_104 rfl (fun e1 => ?_) (fun e1 => ?_)
  · have h := o_pos e1 h
    refine g_lload_n (pc := 113) C d_Mo_asPair_113 rfl 1 rfl ?_
    refine g_lv [0] rfl ?_
    exact w_Mo_asPair_114 C ha0 h
  · have h := o_neg e1 h
    refine g_lconst (pc := 107) C (0 : Int64) d_Mo_asPair_107 (by decide) ?_
    refine g_lload_n (pc := 108) C d_Mo_asPair_108 rfl 1 rfl ?_
    refine g_lsub (pc := 109) C d_Mo_asPair_109 ?_
    refine g_goto (pc := 110) C 114 d_Mo_asPair_110 rfl ?_
    refine g_lv [0] rfl ?_
    exact w_Mo_asPair_114 C ha0 h
set_option maxRecDepth 20000 in
theorem w_Mo_asPair_71b {X : HX} {ad : Nat → Nat} {I : HI} {J : HJ} {N : HN} {r : HJ} {k71 : HJ → Int64 → Int64 → Int32 → Option (HJ)} {a0 : Nat} {x1 : Int64} {x3 : Int64} {x5 : Int32} (C : Cx X c_Mo_asPair RX11 6 none rm_Mo_asPair) (ha0 : gk Tm nM a0 (0, 11))
    (hk71 : ∀ (J : HJ) (x1 : Int64) (x3 : Int64) (x5 : Int32), k71 J x1 x3 x5 = some r → G Tm X ad nM 0 0 I J N (gE X Tm ad nM (I, r, N, fun _ => none)) 71 6 [(0, .ref (ad a0)), (1, .long x1), (3, .long x3), (5, .int x5)] [])
    (h : Mo_asPair_71b N a0 k71 J x1 x3 x5 = some r) : G Tm X ad nM 0 0 I J N (gE X Tm ad nM (I, r, N, fun _ => none)) 71 6 [(0, .ref (ad a0)), (1, .long x1), (3, .long x3), (5, .int x5)] [] := by
  refine g_iload (pc := 71) C d_Mo_asPair_71 3 rfl ?_
  refine g_bipush (pc := 73) C (14 : Int32) d_Mo_asPair_73 (by decide) ?_
  refine g_icmp_ge (pc := 75) C 101 d_Mo_asPair_75 rfl (fun e1 => ?_) (fun e1 => ?_)
  · have h := o_pos e1 h
    refine g_lv [0, 1, 2] rfl ?_
    exact w_Mo_asPair_101 C ha0 h
  · have h := o_neg e1 h
    refine g_lload_n (pc := 78) C d_Mo_asPair_78 rfl 2 rfl ?_
    refine g_lconst (pc := 79) C (0 : Int64) d_Mo_asPair_79 (by decide) ?_
    refine g_lcmp_ne (pc := 80) C 101 d_Mo_asPair_80 d_Mo_asPair_81 rfl (fun e2 => ?_) (fun e2 => ?_)
    · have h := o_neg e2 h
      refine g_lv [0, 1, 2] rfl ?_
      exact w_Mo_asPair_101 C ha0 h
    · have h := o_pos e2 h
      refine g_aload_n (pc := 84) C d_Mo_asPair_84 rfl 0 rfl ?_
      obtain ⟨b3, hnb3, hb3, h⟩ := o_ra h
      refine g_get (pc := 85) (k := 23) (v := va_rf ((N a0 23).map ad)) C gcX11 inX11 (by decide) fl_Mo_56 ha0 rfl d_Mo_asPair_85 ?_
      refine g_top (g_rf hnb3) ?_
      refine g_bipush (pc := 88) C (13 : Int32) d_Mo_asPair_88 (by decide) ?_
      refine g_iload (pc := 90) C d_Mo_asPair_90 3 rfl ?_
      refine g_isub (pc := 92) C d_Mo_asPair_92 ?_
      obtain ⟨hi4, h⟩ := o_gd h
      refine g_lald (pc := 93) C hb3 hi4 d_Mo_asPair_93 ?_
      obtain ⟨v5, ev5, h⟩ := o_bd h
      refine g_topl ev5 ?_
      refine g_lstore_n (pc := 94) (lv' := [(3, .long v5), (0, .ref (ad a0)), (1, .long x1), (5, .int x5)]) C d_Mo_asPair_94 rfl (by decide) rfl ?_
      refine g_iinc (pc := 95) (q := 3) (lv' := [(5, .int (x5 + 1)), (3, .long v5), (0, .ref (ad a0)), (1, .long x1)]) C d_Mo_asPair_95 rfl rfl (by decide) rfl ?_
      refine g_goto (pc := 98) C 71 d_Mo_asPair_98 rfl ?_
      refine g_lv [2, 3, 1, 0] rfl ?_
      exact hk71 _ _ _ _ h
set_option maxRecDepth 20000 in
theorem w_Mo_asPair_71 {X : HX} {ad : Nat → Nat} {I : HI} {N : HN} {r : HJ} {a0 : Nat} (C : Cx X c_Mo_asPair RX11 6 none rm_Mo_asPair) (ha0 : gk Tm nM a0 (0, 11)) : ∀ (n : Nat) (J : HJ) (x1 : Int64) (x3 : Int64) (x5 : Int32), Mo_asPair_71 N a0 n J x1 x3 x5 = some r → G Tm X ad nM 0 0 I J N (gE X Tm ad nM (I, r, N, fun _ => none)) 71 6 [(0, .ref (ad a0)), (1, .long x1), (3, .long x3), (5, .int x5)] [] := by
  intro n
  induction n with
  | zero => intro J x1 x3 x5 h; cases h
  | succ n ih => intro J x1 x3 x5 h; exact w_Mo_asPair_71b C ha0 ih h
set_option maxRecDepth 20000 in
theorem w_Mo_asPair_61 {X : HX} {ad : Nat → Nat} {I : HI} {J : HJ} {N : HN} {r : HJ} {k7 : HJ → Int64 → Int64 → Int32 → Option (HJ)} {a0 : Nat} {x1 : Int64} {x5 : Int32} {s0 : Int64} (C : Cx X c_Mo_asPair RX11 6 none rm_Mo_asPair) (ha0 : gk Tm nM a0 (0, 11))
    (hk7 : ∀ (J : HJ) (x1 : Int64) (x3 : Int64) (x5 : Int32), k7 J x1 x3 x5 = some r → G Tm X ad nM 0 0 I J N (gE X Tm ad nM (I, r, N, fun _ => none)) 7 6 [(0, .ref (ad a0)), (1, .long x1), (3, .long x3), (5, .int x5)] [])
    (h : Mo_asPair_61 N a0 k7 J x1 x5 s0 = some r) : G Tm X ad nM 0 0 I J N (gE X Tm ad nM (I, r, N, fun _ => none)) 61 6 [(0, .ref (ad a0)), (1, .long x1), (5, .int x5)] [.long s0] := by
  refine g_lstore_n (pc := 61) (lv' := [(3, .long s0), (0, .ref (ad a0)), (1, .long x1), (5, .int x5)]) C d_Mo_asPair_61 rfl (by decide) rfl ?_
  refine g_iinc (pc := 62) (q := 3) (lv' := [(5, .int (x5 + 1)), (3, .long s0), (0, .ref (ad a0)), (1, .long x1)]) C d_Mo_asPair_62 rfl rfl (by decide) rfl ?_
  refine g_goto (pc := 65) C 7 d_Mo_asPair_65 rfl ?_
  refine g_lv [2, 3, 1, 0] rfl ?_
  exact hk7 _ _ _ _ h
set_option maxRecDepth 20000 in
theorem w_Mo_asPair_7b {X : HX} {ad : Nat → Nat} {I : HI} {J : HJ} {N : HN} {r : HJ} {k7 : HJ → Int64 → Int64 → Int32 → Option (HJ)} {a0 : Nat} {x1 : Int64} {x3 : Int64} {x5 : Int32} (C : Cx X c_Mo_asPair RX11 6 none rm_Mo_asPair) (ha0 : gk Tm nM a0 (0, 11))
    (hk7 : ∀ (J : HJ) (x1 : Int64) (x3 : Int64) (x5 : Int32), k7 J x1 x3 x5 = some r → G Tm X ad nM 0 0 I J N (gE X Tm ad nM (I, r, N, fun _ => none)) 7 6 [(0, .ref (ad a0)), (1, .long x1), (3, .long x3), (5, .int x5)] [])
    (h : Mo_asPair_7b N a0 k7 J x1 x3 x5 = some r) : G Tm X ad nM 0 0 I J N (gE X Tm ad nM (I, r, N, fun _ => none)) 7 6 [(0, .ref (ad a0)), (1, .long x1), (3, .long x3), (5, .int x5)] [] := by
  refine g_iload (pc := 7) C d_Mo_asPair_7 3 rfl ?_
  refine g_bipush (pc := 9) C (14 : Int32) d_Mo_asPair_9 (by decide) ?_
  refine g_icmp_ge (pc := 11) C 68 d_Mo_asPair_11 rfl (fun e1 => ?_) (fun e1 => ?_)
  · have h := o_pos e1 h
    refine g_iconst (pc := 68) C (0 : Int32) d_Mo_asPair_68 (by decide) ?_
    refine g_istore (pc := 69) (lv' := [(5, .int (0 : Int32)), (0, .ref (ad a0)), (1, .long x1), (3, .long x3)]) C d_Mo_asPair_69 (by decide) rfl ?_
    refine g_lv [1, 2, 3, 0] rfl ?_
    exact w_Mo_asPair_71 C ha0 _ _ _ _ _ h
  · have h := o_neg e1 h
    refine g_lload_n (pc := 14) C d_Mo_asPair_14 rfl 1 rfl ?_
    refine g_aload_n (pc := 15) C d_Mo_asPair_15 rfl 0 rfl ?_
    obtain ⟨b2, hnb2, hb2, h⟩ := o_ra h
    refine g_get (pc := 16) (k := 23) (v := va_rf ((N a0 23).map ad)) C gcX11 inX11 (by decide) fl_Mo_56 ha0 rfl d_Mo_asPair_16 ?_
    refine g_top (g_rf hnb2) ?_
    refine g_iload (pc := 19) C d_Mo_asPair_19 3 rfl ?_
    obtain ⟨hi3, h⟩ := o_gd h
    refine g_lald (pc := 21) C hb2 hi3 d_Mo_asPair_21 ?_
    obtain ⟨r4, hc5, h⟩ := o_bn1 h
    refine g_S (pc := 22) (rest := []) C (k_Mo_divisor (xl X)  hc5) sm_Mo_divisor ml_Mo_152 st_Mo_divisor ⟨rfl, rfl, Nat.le_of_ble_eq_true rfl, Nat.le_of_ble_eq_true rfl⟩ ⟨Nat.zero_le _, Nat.zero_le _⟩ rfl rfl (Nat.le_of_ble_eq_true rfl) d_Mo_asPair_22 [.long r4] rfl ?_
    refine g_lstore_n (pc := 25) (lv' := [(1, .long r4), (0, .ref (ad a0)), (3, .long x3), (5, .int x5)]) C d_Mo_asPair_25 rfl (by decide) rfl ?_
    refine g_lload_n (pc := 26) C d_Mo_asPair_26 rfl 0 rfl ?_
    refine g_aload_n (pc := 27) C d_Mo_asPair_27 rfl 1 rfl ?_
    obtain ⟨b6, hnb6, hb6, h⟩ := o_ra h
    refine g_get (pc := 28) (k := 24) (v := va_rf ((N a0 24).map ad)) C gcX11 inX11 (by decide) fl_Mo_59 ha0 rfl d_Mo_asPair_28 ?_
    refine g_top (g_rf hnb6) ?_
    refine g_iload (pc := 31) C d_Mo_asPair_31 3 rfl ?_
    obtain ⟨hi7, h⟩ := o_gd h
    refine g_lald (pc := 33) C hb6 hi7 d_Mo_asPair_33 ?_
    obtain ⟨r8, hc9, h⟩ := o_bn1 h
    refine g_S (pc := 34) (rest := []) C (k_Mo_divisor (xl X)  hc9) sm_Mo_divisor ml_Mo_152 st_Mo_divisor ⟨rfl, rfl, Nat.le_of_ble_eq_true rfl, Nat.le_of_ble_eq_true rfl⟩ ⟨Nat.zero_le _, Nat.zero_le _⟩ rfl rfl (Nat.le_of_ble_eq_true rfl) d_Mo_asPair_34 [.long r8] rfl ?_
    refine g_lstore_n (pc := 37) (lv' := [(1, .long r8), (0, .ref (ad a0)), (3, .long x3), (5, .int x5)]) C d_Mo_asPair_37 rfl (by decide) rfl ?_
    refine g_aload_n (pc := 38) C d_Mo_asPair_38 rfl 1 rfl ?_
    obtain ⟨b10, hnb10, hb10, h⟩ := o_ra h
    refine g_get (pc := 39) (k := 24) (v := va_rf ((N a0 24).map ad)) C gcX11 inX11 (by decide) fl_Mo_59 ha0 rfl d_Mo_asPair_39 ?_
    refine g_top (g_rf hnb10) ?_
    refine g_iload (pc := 42) C d_Mo_asPair_42 3 rfl ?_
    obtain ⟨hi11, h⟩ := o_gd h
    refine g_lald (pc := 44) C hb10 hi11 d_Mo_asPair_44 ?_
    refine g_lconst (pc := 45) C (0 : Int64) d_Mo_asPair_45 (by decide) ?_
    refine g_lcmp_eq (pc := 46) C 60 d_Mo_asPair_46 d_Mo_asPair_47 rfl (fun e12 => ?_) (fun e12 => ?_)
    · have h := o_pos e12 h
      refine g_lload_n (pc := 60) C d_Mo_asPair_60 rfl 2 rfl ?_
      refine g_lv [1, 0, 3] rfl ?_
      exact w_Mo_asPair_61 C ha0 hk7 h
    · have h := o_neg e12 h
      refine g_aload_n (pc := 50) C d_Mo_asPair_50 rfl 1 rfl ?_
      obtain ⟨b13, hnb13, hb13, h⟩ := o_ra h
      refine g_get (pc := 51) (k := 24) (v := va_rf ((N a0 24).map ad)) C gcX11 inX11 (by decide) fl_Mo_59 ha0 rfl d_Mo_asPair_51 ?_
      refine g_top (g_rf hnb13) ?_
      refine g_iload (pc := 54) C d_Mo_asPair_54 3 rfl ?_
      obtain ⟨hi14, h⟩ := o_gd h
      refine g_lald (pc := 56) C hb13 hi14 d_Mo_asPair_56 ?_
      refine g_goto (pc := 57) C 61 d_Mo_asPair_57 rfl ?_
      refine g_lv [1, 0, 3] rfl ?_
      exact w_Mo_asPair_61 C ha0 hk7 h
set_option maxRecDepth 20000 in
theorem w_Mo_asPair_7 {X : HX} {ad : Nat → Nat} {I : HI} {N : HN} {r : HJ} {a0 : Nat} (C : Cx X c_Mo_asPair RX11 6 none rm_Mo_asPair) (ha0 : gk Tm nM a0 (0, 11)) : ∀ (n : Nat) (J : HJ) (x1 : Int64) (x3 : Int64) (x5 : Int32), Mo_asPair_7 N a0 n J x1 x3 x5 = some r → G Tm X ad nM 0 0 I J N (gE X Tm ad nM (I, r, N, fun _ => none)) 7 6 [(0, .ref (ad a0)), (1, .long x1), (3, .long x3), (5, .int x5)] [] := by
  intro n
  induction n with
  | zero => intro J x1 x3 x5 h; cases h
  | succ n ih => intro J x1 x3 x5 h; exact w_Mo_asPair_7b C ha0 ih h
set_option maxRecDepth 20000 in
theorem w_Mo_asPair_0 {X : HX} {ad : Nat → Nat} {I : HI} {J : HJ} {N : HN} {r : HJ} {a0 : Nat} (C : Cx X c_Mo_asPair RX11 6 none rm_Mo_asPair) (ha0 : gk Tm nM a0 (0, 11))
    (h : Mo_asPair_0 N a0 J = some r) : G Tm X ad nM 0 0 I J N (gE X Tm ad nM (I, r, N, fun _ => none)) 0 6 [(0, .ref (ad a0))] [] := by
  refine g_lconst (pc := 0) C (0 : Int64) d_Mo_asPair_0 (by decide) ?_
  refine g_lstore_n (pc := 1) (lv' := [(1, .long (0 : Int64)), (0, .ref (ad a0))]) C d_Mo_asPair_1 rfl (by decide) rfl ?_
  refine g_lconst (pc := 2) C (0 : Int64) d_Mo_asPair_2 (by decide) ?_
  refine g_lstore_n (pc := 3) (lv' := [(3, .long (0 : Int64)), (1, .long (0 : Int64)), (0, .ref (ad a0))]) C d_Mo_asPair_3 rfl (by decide) rfl ?_
  refine g_iconst (pc := 4) C (0 : Int32) d_Mo_asPair_4 (by decide) ?_
  refine g_istore (pc := 5) (lv' := [(5, .int (0 : Int32)), (3, .long (0 : Int64)), (1, .long (0 : Int64)), (0, .ref (ad a0))]) C d_Mo_asPair_5 (by decide) rfl ?_
  refine g_lv [3, 2, 1, 0] rfl ?_
  exact w_Mo_asPair_7 C ha0 _ _ _ _ _ h
set_option maxRecDepth 20000 in
theorem k_Mo_asPair (l : Launch) {I : HI} {J : HJ} {N : HN} {a0 : Nat} {r : HJ} (ha0 : gk Tm nM a0 (0, 11)) (h : Mo_asPair N a0 J = some r) : gM l y_Mo_asPair c_Mo_asPair 6 none rm_Mo_asPair Tm nM I J N (fun ad => [.ref (ad a0)]) (I, r, N, fun _ => none) :=
  g_meth (lv := fun ad => [(0, .ref (ad a0))]) (by decide) (fun _ => Nat.le_of_ble_eq_true rfl) (fun _ => rfl) (fun X ad C => g_lv [0] rfl (w_Mo_asPair_0 C ha0 h))
theorem d_Mo_adds_0 : decode c_Mo_adds 0 = .ok (.iconst 0, 1) := by decide +kernel
theorem d_Mo_adds_1 : decode c_Mo_adds 1 = .ok (.istore_n 1, 1) := by decide +kernel
theorem d_Mo_adds_2 : decode c_Mo_adds 2 = .ok (.iload_n 1, 1) := by decide +kernel
theorem d_Mo_adds_3 : decode c_Mo_adds 3 = .ok (.bipush 14, 2) := by decide +kernel
theorem d_Mo_adds_5 : decode c_Mo_adds 5 = .ok (.if_icmp .ge 110, 3) := by decide +kernel
theorem d_Mo_adds_8 : decode c_Mo_adds 8 = .ok (.lconst 0, 1) := by decide +kernel
theorem d_Mo_adds_9 : decode c_Mo_adds 9 = .ok (.lstore_n 2, 1) := by decide +kernel
theorem d_Mo_adds_10 : decode c_Mo_adds 10 = .ok (.lconst 0, 1) := by decide +kernel
theorem d_Mo_adds_11 : decode c_Mo_adds 11 = .ok (.lstore 4, 2) := by decide +kernel
theorem d_Mo_adds_13 : decode c_Mo_adds 13 = .ok (.iconst 0, 1) := by decide +kernel
theorem d_Mo_adds_14 : decode c_Mo_adds 14 = .ok (.istore 6, 2) := by decide +kernel
theorem d_Mo_adds_16 : decode c_Mo_adds 16 = .ok (.iload 6, 2) := by decide +kernel
theorem d_Mo_adds_18 : decode c_Mo_adds 18 = .ok (.iconst 3, 1) := by decide +kernel
theorem d_Mo_adds_19 : decode c_Mo_adds 19 = .ok (.if_icmp .ge 75, 3) := by decide +kernel
theorem d_Mo_adds_22 : decode c_Mo_adds 22 = .ok (.iload 6, 2) := by decide +kernel
theorem d_Mo_adds_24 : decode c_Mo_adds 24 = .ok (.iload_n 1, 1) := by decide +kernel
theorem d_Mo_adds_25 : decode c_Mo_adds 25 = .ok (.if_icmp .gt 69, 3) := by decide +kernel
theorem d_Mo_adds_28 : decode c_Mo_adds 28 = .ok (.lload_n 2, 1) := by decide +kernel
theorem d_Mo_adds_29 : decode c_Mo_adds 29 = .ok (.aload_n 0, 1) := by decide +kernel
theorem d_Mo_adds_30 : decode c_Mo_adds 30 = .ok (.getfield 56, 3) := by decide +kernel
theorem d_Mo_adds_33 : decode c_Mo_adds 33 = .ok (.iload_n 1, 1) := by decide +kernel
theorem d_Mo_adds_34 : decode c_Mo_adds 34 = .ok (.iload 6, 2) := by decide +kernel
theorem d_Mo_adds_36 : decode c_Mo_adds 36 = .ok (.isub, 1) := by decide +kernel
theorem d_Mo_adds_37 : decode c_Mo_adds 37 = .ok (.laload, 1) := by decide +kernel
theorem d_Mo_adds_38 : decode c_Mo_adds 38 = .ok (.aload_n 0, 1) := by decide +kernel
theorem d_Mo_adds_39 : decode c_Mo_adds 39 = .ok (.getfield 65, 3) := by decide +kernel
theorem d_Mo_adds_42 : decode c_Mo_adds 42 = .ok (.iload 6, 2) := by decide +kernel
theorem d_Mo_adds_44 : decode c_Mo_adds 44 = .ok (.laload, 1) := by decide +kernel
theorem d_Mo_adds_45 : decode c_Mo_adds 45 = .ok (.lmul, 1) := by decide +kernel
theorem d_Mo_adds_46 : decode c_Mo_adds 46 = .ok (.aload_n 0, 1) := by decide +kernel
theorem d_Mo_adds_47 : decode c_Mo_adds 47 = .ok (.getfield 59, 3) := by decide +kernel
theorem d_Mo_adds_50 : decode c_Mo_adds 50 = .ok (.iload_n 1, 1) := by decide +kernel
theorem d_Mo_adds_51 : decode c_Mo_adds 51 = .ok (.iload 6, 2) := by decide +kernel
theorem d_Mo_adds_53 : decode c_Mo_adds 53 = .ok (.isub, 1) := by decide +kernel
theorem d_Mo_adds_54 : decode c_Mo_adds 54 = .ok (.laload, 1) := by decide +kernel
theorem d_Mo_adds_55 : decode c_Mo_adds 55 = .ok (.aload_n 0, 1) := by decide +kernel
theorem d_Mo_adds_56 : decode c_Mo_adds 56 = .ok (.getfield 62, 3) := by decide +kernel
theorem d_Mo_adds_59 : decode c_Mo_adds 59 = .ok (.iload 6, 2) := by decide +kernel
theorem d_Mo_adds_61 : decode c_Mo_adds 61 = .ok (.laload, 1) := by decide +kernel
theorem d_Mo_adds_62 : decode c_Mo_adds 62 = .ok (.lmul, 1) := by decide +kernel
theorem d_Mo_adds_63 : decode c_Mo_adds 63 = .ok (.ladd, 1) := by decide +kernel
theorem d_Mo_adds_64 : decode c_Mo_adds 64 = .ok (.ladd, 1) := by decide +kernel
theorem d_Mo_adds_65 : decode c_Mo_adds 65 = .ok (.lstore_n 2, 1) := by decide +kernel
theorem d_Mo_adds_66 : decode c_Mo_adds 66 = .ok (.lload 4, 2) := by decide +kernel
theorem d_Mo_adds_68 : decode c_Mo_adds 68 = .ok (.aload_n 0, 1) := by decide +kernel
theorem d_Mo_adds_69 : decode c_Mo_adds 69 = .ok (.getfield 59, 3) := by decide +kernel
theorem d_Mo_adds_72 : decode c_Mo_adds 72 = .ok (.iload_n 1, 1) := by decide +kernel
theorem d_Mo_adds_73 : decode c_Mo_adds 73 = .ok (.iload 6, 2) := by decide +kernel
theorem d_Mo_adds_75 : decode c_Mo_adds 75 = .ok (.isub, 1) := by decide +kernel
theorem d_Mo_adds_76 : decode c_Mo_adds 76 = .ok (.laload, 1) := by decide +kernel
theorem d_Mo_adds_77 : decode c_Mo_adds 77 = .ok (.aload_n 0, 1) := by decide +kernel
theorem d_Mo_adds_78 : decode c_Mo_adds 78 = .ok (.getfield 65, 3) := by decide +kernel
theorem d_Mo_adds_81 : decode c_Mo_adds 81 = .ok (.iload 6, 2) := by decide +kernel
theorem d_Mo_adds_83 : decode c_Mo_adds 83 = .ok (.laload, 1) := by decide +kernel
theorem d_Mo_adds_84 : decode c_Mo_adds 84 = .ok (.lmul, 1) := by decide +kernel
theorem d_Mo_adds_85 : decode c_Mo_adds 85 = .ok (.ladd, 1) := by decide +kernel
theorem d_Mo_adds_86 : decode c_Mo_adds 86 = .ok (.lstore 4, 2) := by decide +kernel
theorem d_Mo_adds_88 : decode c_Mo_adds 88 = .ok (.iinc 6 1, 3) := by decide +kernel
theorem d_Mo_adds_91 : decode c_Mo_adds 91 = .ok (.goto (-75), 3) := by decide +kernel
theorem d_Mo_adds_94 : decode c_Mo_adds 94 = .ok (.aload_n 0, 1) := by decide +kernel
theorem d_Mo_adds_95 : decode c_Mo_adds 95 = .ok (.getfield 68, 3) := by decide +kernel
theorem d_Mo_adds_98 : decode c_Mo_adds 98 = .ok (.iload_n 1, 1) := by decide +kernel
theorem d_Mo_adds_99 : decode c_Mo_adds 99 = .ok (.lload_n 2, 1) := by decide +kernel
theorem d_Mo_adds_100 : decode c_Mo_adds 100 = .ok (.lastore, 1) := by decide +kernel
theorem d_Mo_adds_101 : decode c_Mo_adds 101 = .ok (.aload_n 0, 1) := by decide +kernel
theorem d_Mo_adds_102 : decode c_Mo_adds 102 = .ok (.getfield 71, 3) := by decide +kernel
theorem d_Mo_adds_105 : decode c_Mo_adds 105 = .ok (.iload_n 1, 1) := by decide +kernel
theorem d_Mo_adds_106 : decode c_Mo_adds 106 = .ok (.lload 4, 2) := by decide +kernel
theorem d_Mo_adds_108 : decode c_Mo_adds 108 = .ok (.lastore, 1) := by decide +kernel
theorem d_Mo_adds_109 : decode c_Mo_adds 109 = .ok (.iinc 1 1, 3) := by decide +kernel
theorem d_Mo_adds_112 : decode c_Mo_adds 112 = .ok (.goto (-110), 3) := by decide +kernel
theorem d_Mo_adds_115 : decode c_Mo_adds 115 = .ok (.iconst 0, 1) := by decide +kernel
theorem d_Mo_adds_116 : decode c_Mo_adds 116 = .ok (.istore_n 1, 1) := by decide +kernel
theorem d_Mo_adds_117 : decode c_Mo_adds 117 = .ok (.iload_n 1, 1) := by decide +kernel
theorem d_Mo_adds_118 : decode c_Mo_adds 118 = .ok (.bipush 14, 2) := by decide +kernel
theorem d_Mo_adds_120 : decode c_Mo_adds 120 = .ok (.if_icmp .ge 33, 3) := by decide +kernel
theorem d_Mo_adds_123 : decode c_Mo_adds 123 = .ok (.aload_n 0, 1) := by decide +kernel
theorem d_Mo_adds_124 : decode c_Mo_adds 124 = .ok (.getfield 56, 3) := by decide +kernel
theorem d_Mo_adds_127 : decode c_Mo_adds 127 = .ok (.iload_n 1, 1) := by decide +kernel
theorem d_Mo_adds_128 : decode c_Mo_adds 128 = .ok (.aload_n 0, 1) := by decide +kernel
theorem d_Mo_adds_129 : decode c_Mo_adds 129 = .ok (.getfield 68, 3) := by decide +kernel
theorem d_Mo_adds_132 : decode c_Mo_adds 132 = .ok (.iload_n 1, 1) := by decide +kernel
theorem d_Mo_adds_133 : decode c_Mo_adds 133 = .ok (.laload, 1) := by decide +kernel
theorem d_Mo_adds_134 : decode c_Mo_adds 134 = .ok (.lastore, 1) := by decide +kernel
theorem d_Mo_adds_135 : decode c_Mo_adds 135 = .ok (.aload_n 0, 1) := by decide +kernel
theorem d_Mo_adds_136 : decode c_Mo_adds 136 = .ok (.getfield 59, 3) := by decide +kernel
theorem d_Mo_adds_139 : decode c_Mo_adds 139 = .ok (.iload_n 1, 1) := by decide +kernel
theorem d_Mo_adds_140 : decode c_Mo_adds 140 = .ok (.aload_n 0, 1) := by decide +kernel
theorem d_Mo_adds_141 : decode c_Mo_adds 141 = .ok (.getfield 71, 3) := by decide +kernel
theorem d_Mo_adds_144 : decode c_Mo_adds 144 = .ok (.iload_n 1, 1) := by decide +kernel
theorem d_Mo_adds_145 : decode c_Mo_adds 145 = .ok (.laload, 1) := by decide +kernel
theorem d_Mo_adds_146 : decode c_Mo_adds 146 = .ok (.lastore, 1) := by decide +kernel
theorem d_Mo_adds_147 : decode c_Mo_adds 147 = .ok (.iinc 1 1, 3) := by decide +kernel
theorem d_Mo_adds_150 : decode c_Mo_adds 150 = .ok (.goto (-33), 3) := by decide +kernel
theorem d_Mo_adds_153 : decode c_Mo_adds 153 = .ok (.return_, 1) := by decide +kernel
set_option maxRecDepth 20000 in
theorem w_Mo_adds_117b {X : HX} {ad : Nat → Nat} {I : HI} {J : HJ} {N : HN} {r : HJ} {k117 : HJ → Int32 → Option (HJ)} {a0 : Nat} {x1 : Int32} (C : Cx X c_Mo_adds RX11 7 none rm_Mo_adds) (ha0 : gk Tm nM a0 (0, 11))
    (hk117 : ∀ (J : HJ) (x1 : Int32), k117 J x1 = some r → G Tm X ad nM 0 0 I J N (gE X Tm ad nM (I, r, N, fun _ => none)) 117 7 [(0, .ref (ad a0)), (1, .int x1)] [])
    (h : Mo_adds_117b N a0 k117 J x1 = some r) : G Tm X ad nM 0 0 I J N (gE X Tm ad nM (I, r, N, fun _ => none)) 117 7 [(0, .ref (ad a0)), (1, .int x1)] [] := by
  refine g_iload_n (pc := 117) C d_Mo_adds_117 rfl 1 rfl ?_
  refine g_bipush (pc := 118) C (14 : Int32) d_Mo_adds_118 (by decide) ?_
  refine g_icmp_ge (pc := 120) C 153 d_Mo_adds_120 rfl (fun e1 => ?_) (fun e1 => ?_)
  · have h := o_pos e1 h
    obtain rfl := o_ret h
    exact g_vret (pc := 153) C d_Mo_adds_153
  · have h := o_neg e1 h
    refine g_aload_n (pc := 123) C d_Mo_adds_123 rfl 0 rfl ?_
    obtain ⟨b2, hnb2, hb2, h⟩ := o_ra h
    refine g_get (pc := 124) (k := 23) (v := va_rf ((N a0 23).map ad)) C gcX11 inX11 (by decide) fl_Mo_56 ha0 rfl d_Mo_adds_124 ?_
    refine g_top (g_rf hnb2) ?_
    refine g_iload_n (pc := 127) C d_Mo_adds_127 rfl 1 rfl ?_
    refine g_aload_n (pc := 128) C d_Mo_adds_128 rfl 0 rfl ?_
    obtain ⟨b3, hnb3, hb3, h⟩ := o_ra h
    refine g_get (pc := 129) (k := 27) (v := va_rf ((N a0 27).map ad)) C gcX11 inX11 (by decide) fl_Mo_68 ha0 rfl d_Mo_adds_129 ?_
    refine g_top (g_rf hnb3) ?_
    refine g_iload_n (pc := 132) C d_Mo_adds_132 rfl 1 rfl ?_
    obtain ⟨hi4, h⟩ := o_gd h
    refine g_lald (pc := 133) C hb3 hi4 d_Mo_adds_133 ?_
    obtain ⟨hi5, h⟩ := o_gd h
    refine g_last (pc := 134) C hb2 hi5 d_Mo_adds_134 ?_
    obtain ⟨J6, eJ6, h⟩ := o_bd h
    rw [← eJ6]
    refine g_aload_n (pc := 135) C d_Mo_adds_135 rfl 0 rfl ?_
    obtain ⟨b7, hnb7, hb7, h⟩ := o_ra h
    refine g_get (pc := 136) (k := 24) (v := va_rf ((N a0 24).map ad)) C gcX11 inX11 (by decide) fl_Mo_59 ha0 rfl d_Mo_adds_136 ?_
    refine g_top (g_rf hnb7) ?_
    refine g_iload_n (pc := 139) C d_Mo_adds_139 rfl 1 rfl ?_
    refine g_aload_n (pc := 140) C d_Mo_adds_140 rfl 0 rfl ?_
    obtain ⟨b8, hnb8, hb8, h⟩ := o_ra h
    refine g_get (pc := 141) (k := 28) (v := va_rf ((N a0 28).map ad)) C gcX11 inX11 (by decide) fl_Mo_71 ha0 rfl d_Mo_adds_141 ?_
    refine g_top (g_rf hnb8) ?_
    refine g_iload_n (pc := 144) C d_Mo_adds_144 rfl 1 rfl ?_
    obtain ⟨hi9, h⟩ := o_gd h
    refine g_lald (pc := 145) C hb8 hi9 d_Mo_adds_145 ?_
    obtain ⟨hi10, h⟩ := o_gd h
    refine g_last (pc := 146) C hb7 hi10 d_Mo_adds_146 ?_
    obtain ⟨J11, eJ11, h⟩ := o_bd h
    rw [← eJ11]
    refine g_iinc (pc := 147) (q := 1) (lv' := [(1, .int (x1 + 1)), (0, .ref (ad a0))]) C d_Mo_adds_147 rfl rfl (by decide) rfl ?_
    refine g_goto (pc := 150) C 117 d_Mo_adds_150 rfl ?_
    refine g_lv [1, 0] rfl ?_
    exact hk117 _ _ h
set_option maxRecDepth 20000 in
theorem w_Mo_adds_117 {X : HX} {ad : Nat → Nat} {I : HI} {N : HN} {r : HJ} {a0 : Nat} (C : Cx X c_Mo_adds RX11 7 none rm_Mo_adds) (ha0 : gk Tm nM a0 (0, 11)) : ∀ (n : Nat) (J : HJ) (x1 : Int32), Mo_adds_117 N a0 n J x1 = some r → G Tm X ad nM 0 0 I J N (gE X Tm ad nM (I, r, N, fun _ => none)) 117 7 [(0, .ref (ad a0)), (1, .int x1)] [] := by
  intro n
  induction n with
  | zero => intro J x1 h; cases h
  | succ n ih => intro J x1 h; exact w_Mo_adds_117b C ha0 ih h
set_option maxRecDepth 20000 in
theorem w_Mo_adds_94 {X : HX} {ad : Nat → Nat} {I : HI} {J : HJ} {N : HN} {r : HJ} {k2 : HJ → Int32 → Option (HJ)} {a0 : Nat} {x1 : Int32} {x2 : Int64} {x4 : Int64} (C : Cx X c_Mo_adds RX11 7 none rm_Mo_adds) (ha0 : gk Tm nM a0 (0, 11))
    (hk2 : ∀ (J : HJ) (x1 : Int32), k2 J x1 = some r → G Tm X ad nM 0 0 I J N (gE X Tm ad nM (I, r, N, fun _ => none)) 2 7 [(0, .ref (ad a0)), (1, .int x1)] [])
    (h : Mo_adds_94 N a0 k2 J x1 x2 x4 = some r) : G Tm X ad nM 0 0 I J N (gE X Tm ad nM (I, r, N, fun _ => none)) 94 7 [(0, .ref (ad a0)), (1, .int x1), (2, .long x2), (4, .long x4)] [] := by
  refine g_aload_n (pc := 94) C d_Mo_adds_94 rfl 0 rfl ?_
  obtain ⟨b1, hnb1, hb1, h⟩ := o_ra h
  refine g_get (pc := 95) (k := 27) (v := va_rf ((N a0 27).map ad)) C gcX11 inX11 (by decide) fl_Mo_68 ha0 rfl d_Mo_adds_95 ?_
  refine g_top (g_rf hnb1) ?_
  refine g_iload_n (pc := 98) C d_Mo_adds_98 rfl 1 rfl ?_
  refine g_lload_n (pc := 99) C d_Mo_adds_99 rfl 2 rfl ?_
  obtain ⟨hi2, h⟩ := o_gd h
  refine g_last (pc := 100) C hb1 hi2 d_Mo_adds_100 ?_
  obtain ⟨J3, eJ3, h⟩ := o_bd h
  rw [← eJ3]
  refine g_aload_n (pc := 101) C d_Mo_adds_101 rfl 0 rfl ?_
  obtain ⟨b4, hnb4, hb4, h⟩ := o_ra h
  refine g_get (pc := 102) (k := 28) (v := va_rf ((N a0 28).map ad)) C gcX11 inX11 (by decide) fl_Mo_71 ha0 rfl d_Mo_adds_102 ?_
  refine g_top (g_rf hnb4) ?_
  refine g_iload_n (pc := 105) C d_Mo_adds_105 rfl 1 rfl ?_
  refine g_lload (pc := 106) C d_Mo_adds_106 3 rfl ?_
  obtain ⟨hi5, h⟩ := o_gd h
  refine g_last (pc := 108) C hb4 hi5 d_Mo_adds_108 ?_
  obtain ⟨J6, eJ6, h⟩ := o_bd h
  rw [← eJ6]
  refine g_iinc (pc := 109) (q := 1) (lv' := [(1, .int (x1 + 1)), (0, .ref (ad a0)), (2, .long x2), (4, .long x4)]) C d_Mo_adds_109 rfl rfl (by decide) rfl ?_
  refine g_goto (pc := 112) C 2 d_Mo_adds_112 rfl ?_
  refine g_lv [1, 0] rfl ?_
  exact hk2 _ _ h
set_option maxRecDepth 20000 in
theorem w_Mo_adds_16b {X : HX} {ad : Nat → Nat} {I : HI} {J : HJ} {N : HN} {r : HJ} {k2 : HJ → Int32 → Option (HJ)} {k16 : HJ → Int32 → Int64 → Int64 → Int32 → Option (HJ)} {a0 : Nat} {x1 : Int32} {x2 : Int64} {x4 : Int64} {x6 : Int32} (C : Cx X c_Mo_adds RX11 7 none rm_Mo_adds) (ha0 : gk Tm nM a0 (0, 11))
    (hk2 : ∀ (J : HJ) (x1 : Int32), k2 J x1 = some r → G Tm X ad nM 0 0 I J N (gE X Tm ad nM (I, r, N, fun _ => none)) 2 7 [(0, .ref (ad a0)), (1, .int x1)] [])
    (hk16 : ∀ (J : HJ) (x1 : Int32) (x2 : Int64) (x4 : Int64) (x6 : Int32), k16 J x1 x2 x4 x6 = some r → G Tm X ad nM 0 0 I J N (gE X Tm ad nM (I, r, N, fun _ => none)) 16 7 [(0, .ref (ad a0)), (1, .int x1), (2, .long x2), (4, .long x4), (6, .int x6)] [])
    (h : Mo_adds_16b N a0 k2 k16 J x1 x2 x4 x6 = some r) : G Tm X ad nM 0 0 I J N (gE X Tm ad nM (I, r, N, fun _ => none)) 16 7 [(0, .ref (ad a0)), (1, .int x1), (2, .long x2), (4, .long x4), (6, .int x6)] [] := by
  refine g_iload (pc := 16) C d_Mo_adds_16 4 rfl ?_
  refine g_iconst (pc := 18) C (3 : Int32) d_Mo_adds_18 (by decide) ?_
  refine g_icmp_ge (pc := 19) C 94 d_Mo_adds_19 rfl (fun e1 => ?_) (fun e1 => ?_)
  · have h := o_pos e1 h
    refine g_lv [0, 1, 2, 3] rfl ?_
    exact w_Mo_adds_94 C ha0 hk2 h
  · have h := o_neg e1 h
    refine g_iload (pc := 22) C d_Mo_adds_22 4 rfl ?_
    refine g_iload_n (pc := 24) C d_Mo_adds_24 rfl 1 rfl ?_
    refine g_icmp_gt (pc := 25) C 94 d_Mo_adds_25 rfl (fun e2 => ?_) (fun e2 => ?_)
    · have h := o_pos e2 h
      refine g_lv [0, 1, 2, 3] rfl ?_
      exact w_Mo_adds_94 C ha0 hk2 h
    · have h := o_neg e2 h
      refine g_lload_n (pc := 28) C d_Mo_adds_28 rfl 2 rfl ?_
      refine g_aload_n (pc := 29) C d_Mo_adds_29 rfl 0 rfl ?_
      obtain ⟨b3, hnb3, hb3, h⟩ := o_ra h
      refine g_get (pc := 30) (k := 23) (v := va_rf ((N a0 23).map ad)) C gcX11 inX11 (by decide) fl_Mo_56 ha0 rfl d_Mo_adds_30 ?_
      refine g_top (g_rf hnb3) ?_
      refine g_iload_n (pc := 33) C d_Mo_adds_33 rfl 1 rfl ?_
      refine g_iload (pc := 34) C d_Mo_adds_34 4 rfl ?_
      refine g_isub (pc := 36) C d_Mo_adds_36 ?_
      obtain ⟨hi4, h⟩ := o_gd h
      refine g_lald (pc := 37) C hb3 hi4 d_Mo_adds_37 ?_
      refine g_aload_n (pc := 38) C d_Mo_adds_38 rfl 0 rfl ?_
      obtain ⟨b5, hnb5, hb5, h⟩ := o_ra h
      refine g_get (pc := 39) (k := 26) (v := va_rf ((N a0 26).map ad)) C gcX11 inX11 (by decide) fl_Mo_65 ha0 rfl d_Mo_adds_39 ?_
      refine g_top (g_rf hnb5) ?_
      refine g_iload (pc := 42) C d_Mo_adds_42 4 rfl ?_
      obtain ⟨hi6, h⟩ := o_gd h
      refine g_lald (pc := 44) C hb5 hi6 d_Mo_adds_44 ?_
      refine g_lmul (pc := 45) C d_Mo_adds_45 ?_
      refine g_aload_n (pc := 46) C d_Mo_adds_46 rfl 0 rfl ?_
      obtain ⟨b7, hnb7, hb7, h⟩ := o_ra h
      refine g_get (pc := 47) (k := 24) (v := va_rf ((N a0 24).map ad)) C gcX11 inX11 (by decide) fl_Mo_59 ha0 rfl d_Mo_adds_47 ?_
      refine g_top (g_rf hnb7) ?_
      refine g_iload_n (pc := 50) C d_Mo_adds_50 rfl 1 rfl ?_
      refine g_iload (pc := 51) C d_Mo_adds_51 4 rfl ?_
      refine g_isub (pc := 53) C d_Mo_adds_53 ?_
      obtain ⟨hi8, h⟩ := o_gd h
      refine g_lald (pc := 54) C hb7 hi8 d_Mo_adds_54 ?_
      refine g_aload_n (pc := 55) C d_Mo_adds_55 rfl 0 rfl ?_
      obtain ⟨b9, hnb9, hb9, h⟩ := o_ra h
      refine g_get (pc := 56) (k := 25) (v := va_rf ((N a0 25).map ad)) C gcX11 inX11 (by decide) fl_Mo_62 ha0 rfl d_Mo_adds_56 ?_
      refine g_top (g_rf hnb9) ?_
      refine g_iload (pc := 59) C d_Mo_adds_59 4 rfl ?_
      obtain ⟨hi10, h⟩ := o_gd h
      refine g_lald (pc := 61) C hb9 hi10 d_Mo_adds_61 ?_
      refine g_lmul (pc := 62) C d_Mo_adds_62 ?_
      refine g_ladd (pc := 63) C d_Mo_adds_63 ?_
      refine g_ladd (pc := 64) C d_Mo_adds_64 ?_
      obtain ⟨v11, ev11, h⟩ := o_bd h
      refine g_topl ev11 ?_
      refine g_lstore_n (pc := 65) (lv' := [(2, .long v11), (0, .ref (ad a0)), (1, .int x1), (4, .long x4), (6, .int x6)]) C d_Mo_adds_65 rfl (by decide) rfl ?_
      refine g_lload (pc := 66) C d_Mo_adds_66 3 rfl ?_
      refine g_aload_n (pc := 68) C d_Mo_adds_68 rfl 1 rfl ?_
      obtain ⟨b12, hnb12, hb12, h⟩ := o_ra h
      refine g_get (pc := 69) (k := 24) (v := va_rf ((N a0 24).map ad)) C gcX11 inX11 (by decide) fl_Mo_59 ha0 rfl d_Mo_adds_69 ?_
      refine g_top (g_rf hnb12) ?_
      refine g_iload_n (pc := 72) C d_Mo_adds_72 rfl 2 rfl ?_
      refine g_iload (pc := 73) C d_Mo_adds_73 4 rfl ?_
      refine g_isub (pc := 75) C d_Mo_adds_75 ?_
      obtain ⟨hi13, h⟩ := o_gd h
      refine g_lald (pc := 76) C hb12 hi13 d_Mo_adds_76 ?_
      refine g_aload_n (pc := 77) C d_Mo_adds_77 rfl 1 rfl ?_
      obtain ⟨b14, hnb14, hb14, h⟩ := o_ra h
      refine g_get (pc := 78) (k := 26) (v := va_rf ((N a0 26).map ad)) C gcX11 inX11 (by decide) fl_Mo_65 ha0 rfl d_Mo_adds_78 ?_
      refine g_top (g_rf hnb14) ?_
      refine g_iload (pc := 81) C d_Mo_adds_81 4 rfl ?_
      obtain ⟨hi15, h⟩ := o_gd h
      refine g_lald (pc := 83) C hb14 hi15 d_Mo_adds_83 ?_
      refine g_lmul (pc := 84) C d_Mo_adds_84 ?_
      refine g_ladd (pc := 85) C d_Mo_adds_85 ?_
      obtain ⟨v16, ev16, h⟩ := o_bd h
      refine g_topl ev16 ?_
      refine g_lstore (pc := 86) (lv' := [(4, .long v16), (2, .long v11), (0, .ref (ad a0)), (1, .int x1), (6, .int x6)]) C d_Mo_adds_86 (by decide) rfl ?_
      refine g_iinc (pc := 88) (q := 4) (lv' := [(6, .int (x6 + 1)), (4, .long v16), (2, .long v11), (0, .ref (ad a0)), (1, .int x1)]) C d_Mo_adds_88 rfl rfl (by decide) rfl ?_
      refine g_goto (pc := 91) C 16 d_Mo_adds_91 rfl ?_
      refine g_lv [3, 4, 2, 1, 0] rfl ?_
      exact hk16 _ _ _ _ _ h
set_option maxRecDepth 20000 in
theorem w_Mo_adds_16 {X : HX} {ad : Nat → Nat} {I : HI} {N : HN} {r : HJ} {k2 : HJ → Int32 → Option (HJ)} {a0 : Nat} (C : Cx X c_Mo_adds RX11 7 none rm_Mo_adds) (ha0 : gk Tm nM a0 (0, 11))
    (hk2 : ∀ (J : HJ) (x1 : Int32), k2 J x1 = some r → G Tm X ad nM 0 0 I J N (gE X Tm ad nM (I, r, N, fun _ => none)) 2 7 [(0, .ref (ad a0)), (1, .int x1)] []) : ∀ (n : Nat) (J : HJ) (x1 : Int32) (x2 : Int64) (x4 : Int64) (x6 : Int32), Mo_adds_16 N a0 k2 n J x1 x2 x4 x6 = some r → G Tm X ad nM 0 0 I J N (gE X Tm ad nM (I, r, N, fun _ => none)) 16 7 [(0, .ref (ad a0)), (1, .int x1), (2, .long x2), (4, .long x4), (6, .int x6)] [] := by
  intro n
  induction n with
  | zero => intro J x1 x2 x4 x6 h; cases h
  | succ n ih => intro J x1 x2 x4 x6 h; exact w_Mo_adds_16b C ha0 hk2 ih h
set_option maxRecDepth 20000 in
theorem w_Mo_adds_2b {X : HX} {ad : Nat → Nat} {I : HI} {J : HJ} {N : HN} {r : HJ} {k2 : HJ → Int32 → Option (HJ)} {a0 : Nat} {x1 : Int32} (C : Cx X c_Mo_adds RX11 7 none rm_Mo_adds) (ha0 : gk Tm nM a0 (0, 11))
    (hk2 : ∀ (J : HJ) (x1 : Int32), k2 J x1 = some r → G Tm X ad nM 0 0 I J N (gE X Tm ad nM (I, r, N, fun _ => none)) 2 7 [(0, .ref (ad a0)), (1, .int x1)] [])
    (h : Mo_adds_2b N a0 k2 J x1 = some r) : G Tm X ad nM 0 0 I J N (gE X Tm ad nM (I, r, N, fun _ => none)) 2 7 [(0, .ref (ad a0)), (1, .int x1)] [] := by
  refine g_iload_n (pc := 2) C d_Mo_adds_2 rfl 1 rfl ?_
  refine g_bipush (pc := 3) C (14 : Int32) d_Mo_adds_3 (by decide) ?_
  refine g_icmp_ge (pc := 5) C 115 d_Mo_adds_5 rfl (fun e1 => ?_) (fun e1 => ?_)
  · have h := o_pos e1 h
    refine g_iconst (pc := 115) C (0 : Int32) d_Mo_adds_115 (by decide) ?_
    refine g_istore_n (pc := 116) (lv' := [(1, .int (0 : Int32)), (0, .ref (ad a0))]) C d_Mo_adds_116 rfl (by decide) rfl ?_
    refine g_lv [1, 0] rfl ?_
    exact w_Mo_adds_117 C ha0 _ _ _ h
  · have h := o_neg e1 h
    refine g_lconst (pc := 8) C (0 : Int64) d_Mo_adds_8 (by decide) ?_
    refine g_lstore_n (pc := 9) (lv' := [(2, .long (0 : Int64)), (0, .ref (ad a0)), (1, .int x1)]) C d_Mo_adds_9 rfl (by decide) rfl ?_
    refine g_lconst (pc := 10) C (0 : Int64) d_Mo_adds_10 (by decide) ?_
    refine g_lstore (pc := 11) (lv' := [(4, .long (0 : Int64)), (2, .long (0 : Int64)), (0, .ref (ad a0)), (1, .int x1)]) C d_Mo_adds_11 (by decide) rfl ?_
    refine g_iconst (pc := 13) C (0 : Int32) d_Mo_adds_13 (by decide) ?_
    refine g_istore (pc := 14) (lv' := [(6, .int (0 : Int32)), (4, .long (0 : Int64)), (2, .long (0 : Int64)), (0, .ref (ad a0)), (1, .int x1)]) C d_Mo_adds_14 (by decide) rfl ?_
    refine g_lv [3, 4, 2, 1, 0] rfl ?_
    exact w_Mo_adds_16 C ha0 hk2 _ _ _ _ _ _ h
set_option maxRecDepth 20000 in
theorem w_Mo_adds_2 {X : HX} {ad : Nat → Nat} {I : HI} {N : HN} {r : HJ} {a0 : Nat} (C : Cx X c_Mo_adds RX11 7 none rm_Mo_adds) (ha0 : gk Tm nM a0 (0, 11)) : ∀ (n : Nat) (J : HJ) (x1 : Int32), Mo_adds_2 N a0 n J x1 = some r → G Tm X ad nM 0 0 I J N (gE X Tm ad nM (I, r, N, fun _ => none)) 2 7 [(0, .ref (ad a0)), (1, .int x1)] [] := by
  intro n
  induction n with
  | zero => intro J x1 h; cases h
  | succ n ih => intro J x1 h; exact w_Mo_adds_2b C ha0 ih h
set_option maxRecDepth 20000 in
theorem w_Mo_adds_0 {X : HX} {ad : Nat → Nat} {I : HI} {J : HJ} {N : HN} {r : HJ} {a0 : Nat} (C : Cx X c_Mo_adds RX11 7 none rm_Mo_adds) (ha0 : gk Tm nM a0 (0, 11))
    (h : Mo_adds_0 N a0 J = some r) : G Tm X ad nM 0 0 I J N (gE X Tm ad nM (I, r, N, fun _ => none)) 0 7 [(0, .ref (ad a0))] [] := by
  refine g_iconst (pc := 0) C (0 : Int32) d_Mo_adds_0 (by decide) ?_
  refine g_istore_n (pc := 1) (lv' := [(1, .int (0 : Int32)), (0, .ref (ad a0))]) C d_Mo_adds_1 rfl (by decide) rfl ?_
  refine g_lv [1, 0] rfl ?_
  exact w_Mo_adds_2 C ha0 _ _ _ h
set_option maxRecDepth 20000 in
theorem k_Mo_adds (l : Launch) {I : HI} {J : HJ} {N : HN} {a0 : Nat} {r : HJ} (ha0 : gk Tm nM a0 (0, 11)) (h : Mo_adds N a0 J = some r) : gM l y_Mo_adds c_Mo_adds 7 none rm_Mo_adds Tm nM I J N (fun ad => [.ref (ad a0)]) (I, r, N, fun _ => none) :=
  g_meth (lv := fun ad => [(0, .ref (ad a0))]) (by decide) (fun _ => Nat.le_of_ble_eq_true rfl) (fun _ => rfl) (fun X ad C => g_lv [0] rfl (w_Mo_adds_0 C ha0 h))
theorem d_Mo_folds_0 : decode c_Mo_folds 0 = .ok (.iconst 0, 1) := by decide +kernel
theorem d_Mo_folds_1 : decode c_Mo_folds 1 = .ok (.istore_n 1, 1) := by decide +kernel
theorem d_Mo_folds_2 : decode c_Mo_folds 2 = .ok (.iload_n 1, 1) := by decide +kernel
theorem d_Mo_folds_3 : decode c_Mo_folds 3 = .ok (.bipush 14, 2) := by decide +kernel
theorem d_Mo_folds_5 : decode c_Mo_folds 5 = .ok (.if_icmp .ge 23, 3) := by decide +kernel
theorem d_Mo_folds_8 : decode c_Mo_folds 8 = .ok (.aload_n 0, 1) := by decide +kernel
theorem d_Mo_folds_9 : decode c_Mo_folds 9 = .ok (.getfield 56, 3) := by decide +kernel
theorem d_Mo_folds_12 : decode c_Mo_folds 12 = .ok (.iload_n 1, 1) := by decide +kernel
theorem d_Mo_folds_13 : decode c_Mo_folds 13 = .ok (.lconst 0, 1) := by decide +kernel
theorem d_Mo_folds_14 : decode c_Mo_folds 14 = .ok (.lastore, 1) := by decide +kernel
theorem d_Mo_folds_15 : decode c_Mo_folds 15 = .ok (.aload_n 0, 1) := by decide +kernel
theorem d_Mo_folds_16 : decode c_Mo_folds 16 = .ok (.getfield 59, 3) := by decide +kernel
theorem d_Mo_folds_19 : decode c_Mo_folds 19 = .ok (.iload_n 1, 1) := by decide +kernel
theorem d_Mo_folds_20 : decode c_Mo_folds 20 = .ok (.lconst 0, 1) := by decide +kernel
theorem d_Mo_folds_21 : decode c_Mo_folds 21 = .ok (.lastore, 1) := by decide +kernel
theorem d_Mo_folds_22 : decode c_Mo_folds 22 = .ok (.iinc 1 1, 3) := by decide +kernel
theorem d_Mo_folds_25 : decode c_Mo_folds 25 = .ok (.goto (-23), 3) := by decide +kernel
theorem d_Mo_folds_28 : decode c_Mo_folds 28 = .ok (.aload_n 0, 1) := by decide +kernel
theorem d_Mo_folds_29 : decode c_Mo_folds 29 = .ok (.getfield 159, 3) := by decide +kernel
theorem d_Mo_folds_32 : decode c_Mo_folds 32 = .ok (.iconst 1, 1) := by decide +kernel
theorem d_Mo_folds_33 : decode c_Mo_folds 33 = .ok (.isub, 1) := by decide +kernel
theorem d_Mo_folds_34 : decode c_Mo_folds 34 = .ok (.istore_n 1, 1) := by decide +kernel
theorem d_Mo_folds_35 : decode c_Mo_folds 35 = .ok (.iload_n 1, 1) := by decide +kernel
theorem d_Mo_folds_36 : decode c_Mo_folds 36 = .ok (.ifCond .lt 110, 3) := by decide +kernel
theorem d_Mo_folds_39 : decode c_Mo_folds 39 = .ok (.iload_n 1, 1) := by decide +kernel
theorem d_Mo_folds_40 : decode c_Mo_folds 40 = .ok (.aload_n 0, 1) := by decide +kernel
theorem d_Mo_folds_41 : decode c_Mo_folds 41 = .ok (.getfield 159, 3) := by decide +kernel
theorem d_Mo_folds_44 : decode c_Mo_folds 44 = .ok (.iconst 1, 1) := by decide +kernel
theorem d_Mo_folds_45 : decode c_Mo_folds 45 = .ok (.isub, 1) := by decide +kernel
theorem d_Mo_folds_46 : decode c_Mo_folds 46 = .ok (.if_icmp .ne 47, 3) := by decide +kernel
theorem d_Mo_folds_49 : decode c_Mo_folds 49 = .ok (.aload_n 0, 1) := by decide +kernel
theorem d_Mo_folds_50 : decode c_Mo_folds 50 = .ok (.getfield 56, 3) := by decide +kernel
theorem d_Mo_folds_53 : decode c_Mo_folds 53 = .ok (.iconst 0, 1) := by decide +kernel
theorem d_Mo_folds_54 : decode c_Mo_folds 54 = .ok (.aload_n 0, 1) := by decide +kernel
theorem d_Mo_folds_55 : decode c_Mo_folds 55 = .ok (.getfield 23, 3) := by decide +kernel
theorem d_Mo_folds_58 : decode c_Mo_folds 58 = .ok (.iconst 5, 1) := by decide +kernel
theorem d_Mo_folds_59 : decode c_Mo_folds 59 = .ok (.iload_n 1, 1) := by decide +kernel
theorem d_Mo_folds_60 : decode c_Mo_folds 60 = .ok (.imul, 1) := by decide +kernel
theorem d_Mo_folds_61 : decode c_Mo_folds 61 = .ok (.iaload, 1) := by decide +kernel
theorem d_Mo_folds_62 : decode c_Mo_folds 62 = .ok (.ifCond .ne 7, 3) := by decide +kernel
theorem d_Mo_folds_65 : decode c_Mo_folds 65 = .ok (.lconst 0, 1) := by decide +kernel
theorem d_Mo_folds_66 : decode c_Mo_folds 66 = .ok (.goto 4, 3) := by decide +kernel
theorem d_Mo_folds_69 : decode c_Mo_folds 69 = .ok (.lconst 1, 1) := by decide +kernel
theorem d_Mo_folds_70 : decode c_Mo_folds 70 = .ok (.lastore, 1) := by decide +kernel
theorem d_Mo_folds_71 : decode c_Mo_folds 71 = .ok (.aload_n 0, 1) := by decide +kernel
theorem d_Mo_folds_72 : decode c_Mo_folds 72 = .ok (.getfield 59, 3) := by decide +kernel
theorem d_Mo_folds_75 : decode c_Mo_folds 75 = .ok (.iconst 0, 1) := by decide +kernel
theorem d_Mo_folds_76 : decode c_Mo_folds 76 = .ok (.aload_n 0, 1) := by decide +kernel
theorem d_Mo_folds_77 : decode c_Mo_folds 77 = .ok (.getfield 23, 3) := by decide +kernel
theorem d_Mo_folds_80 : decode c_Mo_folds 80 = .ok (.iconst 5, 1) := by decide +kernel
theorem d_Mo_folds_81 : decode c_Mo_folds 81 = .ok (.iload_n 1, 1) := by decide +kernel
theorem d_Mo_folds_82 : decode c_Mo_folds 82 = .ok (.imul, 1) := by decide +kernel
theorem d_Mo_folds_83 : decode c_Mo_folds 83 = .ok (.iaload, 1) := by decide +kernel
theorem d_Mo_folds_84 : decode c_Mo_folds 84 = .ok (.ifCond .ne 7, 3) := by decide +kernel
theorem d_Mo_folds_87 : decode c_Mo_folds 87 = .ok (.lconst 1, 1) := by decide +kernel
theorem d_Mo_folds_88 : decode c_Mo_folds 88 = .ok (.goto 4, 3) := by decide +kernel
theorem d_Mo_folds_91 : decode c_Mo_folds 91 = .ok (.lconst 0, 1) := by decide +kernel
theorem d_Mo_folds_92 : decode c_Mo_folds 92 = .ok (.lastore, 1) := by decide +kernel
theorem d_Mo_folds_93 : decode c_Mo_folds 93 = .ok (.aload_n 0, 1) := by decide +kernel
theorem d_Mo_folds_94 : decode c_Mo_folds 94 = .ok (.iload_n 1, 1) := by decide +kernel
theorem d_Mo_folds_95 : decode c_Mo_folds 95 = .ok (.invokevirtual 273, 3) := by decide +kernel
theorem d_Mo_folds_98 : decode c_Mo_folds 98 = .ok (.aload_n 0, 1) := by decide +kernel
theorem d_Mo_folds_99 : decode c_Mo_folds 99 = .ok (.getfield 23, 3) := by decide +kernel
theorem d_Mo_folds_102 : decode c_Mo_folds 102 = .ok (.iconst 5, 1) := by decide +kernel
theorem d_Mo_folds_103 : decode c_Mo_folds 103 = .ok (.iload_n 1, 1) := by decide +kernel
theorem d_Mo_folds_104 : decode c_Mo_folds 104 = .ok (.imul, 1) := by decide +kernel
theorem d_Mo_folds_105 : decode c_Mo_folds 105 = .ok (.iaload, 1) := by decide +kernel
theorem d_Mo_folds_106 : decode c_Mo_folds 106 = .ok (.iconst 1, 1) := by decide +kernel
theorem d_Mo_folds_107 : decode c_Mo_folds 107 = .ok (.if_icmp .ne 7, 3) := by decide +kernel
theorem d_Mo_folds_110 : decode c_Mo_folds 110 = .ok (.iconst 1, 1) := by decide +kernel
theorem d_Mo_folds_111 : decode c_Mo_folds 111 = .ok (.goto 4, 3) := by decide +kernel
theorem d_Mo_folds_114 : decode c_Mo_folds 114 = .ok (.iconst 0, 1) := by decide +kernel
theorem d_Mo_folds_115 : decode c_Mo_folds 115 = .ok (.istore_n 2, 1) := by decide +kernel
theorem d_Mo_folds_116 : decode c_Mo_folds 116 = .ok (.iload_n 2, 1) := by decide +kernel
theorem d_Mo_folds_117 : decode c_Mo_folds 117 = .ok (.ifCond .eq 7, 3) := by decide +kernel
theorem d_Mo_folds_120 : decode c_Mo_folds 120 = .ok (.aload_n 0, 1) := by decide +kernel
theorem d_Mo_folds_121 : decode c_Mo_folds 121 = .ok (.invokevirtual 276, 3) := by decide +kernel
theorem d_Mo_folds_124 : decode c_Mo_folds 124 = .ok (.aload_n 0, 1) := by decide +kernel
theorem d_Mo_folds_125 : decode c_Mo_folds 125 = .ok (.invokevirtual 279, 3) := by decide +kernel
theorem d_Mo_folds_128 : decode c_Mo_folds 128 = .ok (.iload_n 2, 1) := by decide +kernel
theorem d_Mo_folds_129 : decode c_Mo_folds 129 = .ok (.ifCond .eq 7, 3) := by decide +kernel
theorem d_Mo_folds_132 : decode c_Mo_folds 132 = .ok (.aload_n 0, 1) := by decide +kernel
theorem d_Mo_folds_133 : decode c_Mo_folds 133 = .ok (.invokevirtual 276, 3) := by decide +kernel
theorem d_Mo_folds_136 : decode c_Mo_folds 136 = .ok (.aload_n 0, 1) := by decide +kernel
theorem d_Mo_folds_137 : decode c_Mo_folds 137 = .ok (.invokevirtual 282, 3) := by decide +kernel
theorem d_Mo_folds_140 : decode c_Mo_folds 140 = .ok (.iinc 1 (-1), 3) := by decide +kernel
theorem d_Mo_folds_143 : decode c_Mo_folds 143 = .ok (.goto (-108), 3) := by decide +kernel
theorem d_Mo_folds_146 : decode c_Mo_folds 146 = .ok (.return_, 1) := by decide +kernel
set_option maxRecDepth 20000 in
theorem w_Mo_folds_136 {X : HX} {ad : Nat → Nat} {I : HI} {J : HJ} {N : HN} {r : HJ} {k35 : HJ → Int32 → Option (HJ)} {a0 : Nat} {x1 : Int32} (C : Cx X c_Mo_folds RX11 3 none rm_Mo_folds) (ha0 : gk Tm nM a0 (0, 11))
    (hk35 : ∀ (J : HJ) (x1 : Int32), k35 J x1 = some r → G Tm X ad nM 0 0 I J N (gE X Tm ad nM (I, r, N, fun _ => none)) 35 3 [(0, .ref (ad a0)), (1, .int x1)] [])
    (h : Mo_folds_136 I N a0 k35 J x1 = some r) : G Tm X ad nM 0 0 I J N (gE X Tm ad nM (I, r, N, fun _ => none)) 136 3 [(0, .ref (ad a0)), (1, .int x1)] [] := by
  refine g_aload_n (pc := 136) C d_Mo_folds_136 rfl 0 rfl ?_
  obtain ⟨J1, hc2, h⟩ := o_bn1 h
  refine g_V (pc := 137) (rest := []) C (k_Mo_asPair (xl X) ha0 hc2) sm_Mo_asPair ml_Mo_282 im_Mo_asPair se_Mo_asPair gcX11 rfl ha0 ⟨rfl, rfl, Nat.le_of_ble_eq_true rfl, Nat.le_of_ble_eq_true rfl⟩ ⟨Nat.zero_le _, Nat.zero_le _⟩ rfl rfl (Nat.le_of_ble_eq_true rfl) d_Mo_folds_137 [] rfl ?_
  refine g_iinc (pc := 140) (q := 1) (lv' := [(1, .int (x1 + (-1))), (0, .ref (ad a0))]) C d_Mo_folds_140 rfl rfl (by decide) rfl ?_
  refine g_goto (pc := 143) C 35 d_Mo_folds_143 rfl ?_
  refine g_lv [1, 0] rfl ?_
  exact hk35 _ _ h
set_option maxRecDepth 20000 in
theorem w_Mo_folds_124 {X : HX} {ad : Nat → Nat} {I : HI} {J : HJ} {N : HN} {r : HJ} {k35 : HJ → Int32 → Option (HJ)} {a0 : Nat} {x1 : Int32} {x2 : Int32} (C : Cx X c_Mo_folds RX11 3 none rm_Mo_folds) (ha0 : gk Tm nM a0 (0, 11))
    (hk35 : ∀ (J : HJ) (x1 : Int32), k35 J x1 = some r → G Tm X ad nM 0 0 I J N (gE X Tm ad nM (I, r, N, fun _ => none)) 35 3 [(0, .ref (ad a0)), (1, .int x1)] [])
    (h : Mo_folds_124 I N a0 k35 J x1 x2 = some r) : G Tm X ad nM 0 0 I J N (gE X Tm ad nM (I, r, N, fun _ => none)) 124 3 [(0, .ref (ad a0)), (1, .int x1), (2, .int x2)] [] := by
  refine g_aload_n (pc := 124) C d_Mo_folds_124 rfl 0 rfl ?_
  obtain ⟨J1, hc2, h⟩ := o_bn1 h
  refine g_V (pc := 125) (rest := []) C (k_Mo_adds (xl X) ha0 hc2) sm_Mo_adds ml_Mo_279 im_Mo_adds se_Mo_adds gcX11 rfl ha0 ⟨rfl, rfl, Nat.le_of_ble_eq_true rfl, Nat.le_of_ble_eq_true rfl⟩ ⟨Nat.zero_le _, Nat.zero_le _⟩ rfl rfl (Nat.le_of_ble_eq_true rfl) d_Mo_folds_125 [] rfl ?_
  refine g_iload_n (pc := 128) C d_Mo_folds_128 rfl 2 rfl ?_
  refine g_if_eq (pc := 129) C 136 d_Mo_folds_129 rfl (fun e3 => ?_) (fun e3 => ?_)
  · have h := o_pos e3 h
    refine g_lv [0, 1] rfl ?_
    exact w_Mo_folds_136 C ha0 hk35 h
  · have h := o_neg e3 h
    refine g_aload_n (pc := 132) C d_Mo_folds_132 rfl 0 rfl ?_
    obtain ⟨J4, hc5, h⟩ := o_bn1 h
    refine g_V (pc := 133) (rest := []) C (k_Mo_turnsOver (xl X) ha0 hc5) sm_Mo_turnsOver ml_Mo_276 im_Mo_turnsOver se_Mo_turnsOver gcX11 rfl ha0 ⟨rfl, rfl, Nat.le_of_ble_eq_true rfl, Nat.le_of_ble_eq_true rfl⟩ ⟨Nat.zero_le _, Nat.zero_le _⟩ rfl rfl (Nat.le_of_ble_eq_true rfl) d_Mo_folds_133 [] rfl ?_
    refine g_lv [0, 1] rfl ?_
    exact w_Mo_folds_136 C ha0 hk35 h
set_option maxRecDepth 20000 in
theorem w_Mo_folds_115 {X : HX} {ad : Nat → Nat} {I : HI} {J : HJ} {N : HN} {r : HJ} {k35 : HJ → Int32 → Option (HJ)} {a0 : Nat} {x1 : Int32} {s0 : Int32} (C : Cx X c_Mo_folds RX11 3 none rm_Mo_folds) (ha0 : gk Tm nM a0 (0, 11))
    (hk35 : ∀ (J : HJ) (x1 : Int32), k35 J x1 = some r → G Tm X ad nM 0 0 I J N (gE X Tm ad nM (I, r, N, fun _ => none)) 35 3 [(0, .ref (ad a0)), (1, .int x1)] [])
    (h : Mo_folds_115 I N a0 k35 J x1 s0 = some r) : G Tm X ad nM 0 0 I J N (gE X Tm ad nM (I, r, N, fun _ => none)) 115 3 [(0, .ref (ad a0)), (1, .int x1)] [.int s0] := by
  refine g_istore_n (pc := 115) (lv' := [(2, .int s0), (0, .ref (ad a0)), (1, .int x1)]) C d_Mo_folds_115 rfl (by decide) rfl ?_
  refine g_iload_n (pc := 116) C d_Mo_folds_116 rfl 0 rfl ?_
  refine g_if_eq (pc := 117) C 124 d_Mo_folds_117 rfl (fun e1 => ?_) (fun e1 => ?_)
  · have h := o_pos e1 h
    refine g_lv [1, 2, 0] rfl ?_
    exact w_Mo_folds_124 C ha0 hk35 h
  · have h := o_neg e1 h
    refine g_aload_n (pc := 120) C d_Mo_folds_120 rfl 1 rfl ?_
    obtain ⟨J2, hc3, h⟩ := o_bn1 h
    refine g_V (pc := 121) (rest := []) C (k_Mo_turnsOver (xl X) ha0 hc3) sm_Mo_turnsOver ml_Mo_276 im_Mo_turnsOver se_Mo_turnsOver gcX11 rfl ha0 ⟨rfl, rfl, Nat.le_of_ble_eq_true rfl, Nat.le_of_ble_eq_true rfl⟩ ⟨Nat.zero_le _, Nat.zero_le _⟩ rfl rfl (Nat.le_of_ble_eq_true rfl) d_Mo_folds_121 [] rfl ?_
    refine g_lv [1, 2, 0] rfl ?_
    exact w_Mo_folds_124 C ha0 hk35 h
set_option maxRecDepth 20000 in
theorem w_Mo_folds_93 {X : HX} {ad : Nat → Nat} {I : HI} {J : HJ} {N : HN} {r : HJ} {k35 : HJ → Int32 → Option (HJ)} {a0 : Nat} {x1 : Int32} (C : Cx X c_Mo_folds RX11 3 none rm_Mo_folds) (ha0 : gk Tm nM a0 (0, 11))
    (hk35 : ∀ (J : HJ) (x1 : Int32), k35 J x1 = some r → G Tm X ad nM 0 0 I J N (gE X Tm ad nM (I, r, N, fun _ => none)) 35 3 [(0, .ref (ad a0)), (1, .int x1)] [])
    (h : Mo_folds_93 I N a0 k35 J x1 = some r) : G Tm X ad nM 0 0 I J N (gE X Tm ad nM (I, r, N, fun _ => none)) 93 3 [(0, .ref (ad a0)), (1, .int x1)] [] := by
  refine g_aload_n (pc := 93) C d_Mo_folds_93 rfl 0 rfl ?_
  refine g_iload_n (pc := 94) C d_Mo_folds_94 rfl 1 rfl ?_
  obtain ⟨J1, hc2, h⟩ := o_bn1 h
  refine g_V (pc := 95) (rest := []) C (k_Mo_armOf (xl X) ha0 hc2) sm_Mo_armOf ml_Mo_273 im_Mo_armOf se_Mo_armOf gcX11 rfl ha0 ⟨rfl, rfl, Nat.le_of_ble_eq_true rfl, Nat.le_of_ble_eq_true rfl⟩ ⟨Nat.zero_le _, Nat.zero_le _⟩ rfl rfl (Nat.le_of_ble_eq_true rfl) d_Mo_folds_95 [] rfl ?_
  refine g_aload_n (pc := 98) C d_Mo_folds_98 rfl 0 rfl ?_
  obtain ⟨b3, hnb3, hb3, h⟩ := o_ra h
  refine g_get (pc := 99) (k := 5) (v := va_rf ((N a0 5).map ad)) C gcX11 inX11 (by decide) fl_Mo_23 ha0 rfl d_Mo_folds_99 ?_
  refine g_top (g_rf hnb3) ?_
  refine g_iconst (pc := 102) C (5 : Int32) d_Mo_folds_102 (by decide) ?_
  refine g_iload_n (pc := 103) C d_Mo_folds_103 rfl 1 rfl ?_
  refine g_imul (pc := 104) C d_Mo_folds_104 ?_
  obtain ⟨hi4, h⟩ := o_gd h
  refine g_iald (pc := 105) C hb3 hi4 d_Mo_folds_105 ?_
  refine g_iconst (pc := 106) C (1 : Int32) d_Mo_folds_106 (by decide) ?_
  refine g_icmp_ne (pc := 107) C 114 d_Mo_folds_107 rfl (fun e5 => ?_) (fun e5 => ?_)
  · have h := o_neg e5 h
    refine g_iconst (pc := 114) C (0 : Int32) d_Mo_folds_114 (by decide) ?_
    refine g_lv [0, 1] rfl ?_
    exact w_Mo_folds_115 C ha0 hk35 h
  · have h := o_pos e5 h
    refine g_iconst (pc := 110) C (1 : Int32) d_Mo_folds_110 (by decide) ?_
    refine g_goto (pc := 111) C 115 d_Mo_folds_111 rfl ?_
    refine g_lv [0, 1] rfl ?_
    exact w_Mo_folds_115 C ha0 hk35 h
set_option maxRecDepth 20000 in
theorem w_Mo_folds_92 {X : HX} {ad : Nat → Nat} {I : HI} {J : HJ} {N : HN} {r : HJ} {k35 : HJ → Int32 → Option (HJ)} {a0 : Nat} {x1 : Int32} {bs0 : Nat} {s1 : Int32} {s2 : Int64} (C : Cx X c_Mo_folds RX11 3 none rm_Mo_folds) (ha0 : gk Tm nM a0 (0, 11)) (hbs0 : ga Tm nM bs0 2)
    (hk35 : ∀ (J : HJ) (x1 : Int32), k35 J x1 = some r → G Tm X ad nM 0 0 I J N (gE X Tm ad nM (I, r, N, fun _ => none)) 35 3 [(0, .ref (ad a0)), (1, .int x1)] [])
    (h : Mo_folds_92 I N a0 k35 J x1 bs0 s1 s2 = some r) : G Tm X ad nM 0 0 I J N (gE X Tm ad nM (I, r, N, fun _ => none)) 92 3 [(0, .ref (ad a0)), (1, .int x1)] [.long s2, .int s1, .ref (ad bs0)] := by
  obtain ⟨hi1, h⟩ := o_gd h
  refine g_last (pc := 92) C hbs0 hi1 d_Mo_folds_92 ?_
  obtain ⟨J2, eJ2, h⟩ := o_bd h
  rw [← eJ2]
  refine g_lv [0, 1] rfl ?_
  exact w_Mo_folds_93 C ha0 hk35 h
set_option maxRecDepth 20000 in
theorem w_Mo_folds_70 {X : HX} {ad : Nat → Nat} {I : HI} {J : HJ} {N : HN} {r : HJ} {k35 : HJ → Int32 → Option (HJ)} {a0 : Nat} {x1 : Int32} {bs0 : Nat} {s1 : Int32} {s2 : Int64} (C : Cx X c_Mo_folds RX11 3 none rm_Mo_folds) (ha0 : gk Tm nM a0 (0, 11)) (hbs0 : ga Tm nM bs0 2)
    (hk35 : ∀ (J : HJ) (x1 : Int32), k35 J x1 = some r → G Tm X ad nM 0 0 I J N (gE X Tm ad nM (I, r, N, fun _ => none)) 35 3 [(0, .ref (ad a0)), (1, .int x1)] [])
    (h : Mo_folds_70 I N a0 k35 J x1 bs0 s1 s2 = some r) : G Tm X ad nM 0 0 I J N (gE X Tm ad nM (I, r, N, fun _ => none)) 70 3 [(0, .ref (ad a0)), (1, .int x1)] [.long s2, .int s1, .ref (ad bs0)] := by
  obtain ⟨hi1, h⟩ := o_gd h
  refine g_last (pc := 70) C hbs0 hi1 d_Mo_folds_70 ?_
  obtain ⟨J2, eJ2, h⟩ := o_bd h
  rw [← eJ2]
  refine g_aload_n (pc := 71) C d_Mo_folds_71 rfl 0 rfl ?_
  obtain ⟨b3, hnb3, hb3, h⟩ := o_ra h
  refine g_get (pc := 72) (k := 24) (v := va_rf ((N a0 24).map ad)) C gcX11 inX11 (by decide) fl_Mo_59 ha0 rfl d_Mo_folds_72 ?_
  refine g_top (g_rf hnb3) ?_
  refine g_iconst (pc := 75) C (0 : Int32) d_Mo_folds_75 (by decide) ?_
  refine g_aload_n (pc := 76) C d_Mo_folds_76 rfl 0 rfl ?_
  obtain ⟨b4, hnb4, hb4, h⟩ := o_ra h
  refine g_get (pc := 77) (k := 5) (v := va_rf ((N a0 5).map ad)) C gcX11 inX11 (by decide) fl_Mo_23 ha0 rfl d_Mo_folds_77 ?_
  refine g_top (g_rf hnb4) ?_
  refine g_iconst (pc := 80) C (5 : Int32) d_Mo_folds_80 (by decide) ?_
  refine g_iload_n (pc := 81) C d_Mo_folds_81 rfl 1 rfl ?_
  refine g_imul (pc := 82) C d_Mo_folds_82 ?_
  obtain ⟨hi5, h⟩ := o_gd h
  refine g_iald (pc := 83) C hb4 hi5 d_Mo_folds_83 ?_
  refine g_if_ne (pc := 84) C 91 d_Mo_folds_84 rfl (fun e6 => ?_) (fun e6 => ?_)
  · have h := o_neg e6 h
    refine g_lconst (pc := 91) C (0 : Int64) d_Mo_folds_91 (by decide) ?_
    refine g_lv [0, 1] rfl ?_
    exact w_Mo_folds_92 C ha0 hb3 hk35 h
  · have h := o_pos e6 h
    refine g_lconst (pc := 87) C (1 : Int64) d_Mo_folds_87 (by decide) ?_
    refine g_goto (pc := 88) C 92 d_Mo_folds_88 rfl ?_
    refine g_lv [0, 1] rfl ?_
    exact w_Mo_folds_92 C ha0 hb3 hk35 h
set_option maxRecDepth 20000 in
theorem w_Mo_folds_35b {X : HX} {ad : Nat → Nat} {I : HI} {J : HJ} {N : HN} {r : HJ} {k35 : HJ → Int32 → Option (HJ)} {a0 : Nat} {x1 : Int32} (C : Cx X c_Mo_folds RX11 3 none rm_Mo_folds) (ha0 : gk Tm nM a0 (0, 11))
    (hk35 : ∀ (J : HJ) (x1 : Int32), k35 J x1 = some r → G Tm X ad nM 0 0 I J N (gE X Tm ad nM (I, r, N, fun _ => none)) 35 3 [(0, .ref (ad a0)), (1, .int x1)] [])
    (h : Mo_folds_35b I N a0 k35 J x1 = some r) : G Tm X ad nM 0 0 I J N (gE X Tm ad nM (I, r, N, fun _ => none)) 35 3 [(0, .ref (ad a0)), (1, .int x1)] [] := by
  refine g_iload_n (pc := 35) C d_Mo_folds_35 rfl 1 rfl ?_
  refine g_if_lt (pc := 36) C 146 d_Mo_folds_36 rfl (fun e1 => ?_) (fun e1 => ?_)
  · have h := o_pos e1 h
    obtain rfl := o_ret h
    exact g_vret (pc := 146) C d_Mo_folds_146
  · have h := o_neg e1 h
    refine g_iload_n (pc := 39) C d_Mo_folds_39 rfl 1 rfl ?_
    refine g_aload_n (pc := 40) C d_Mo_folds_40 rfl 0 rfl ?_
    refine g_get (pc := 41) (k := 6) (v := .int (I a0 6)) C gcX11 inX11 (by decide) fl_Mo_159 ha0 rfl d_Mo_folds_41 ?_
    refine g_iconst (pc := 44) C (1 : Int32) d_Mo_folds_44 (by decide) ?_
    refine g_isub (pc := 45) C d_Mo_folds_45 ?_
    refine g_icmp_ne (pc := 46) C 93 d_Mo_folds_46 rfl (fun e2 => ?_) (fun e2 => ?_)
    · have h := o_neg e2 h
      refine g_lv [0, 1] rfl ?_
      exact w_Mo_folds_93 C ha0 hk35 h
    · have h := o_pos e2 h
      refine g_aload_n (pc := 49) C d_Mo_folds_49 rfl 0 rfl ?_
      obtain ⟨b3, hnb3, hb3, h⟩ := o_ra h
      refine g_get (pc := 50) (k := 23) (v := va_rf ((N a0 23).map ad)) C gcX11 inX11 (by decide) fl_Mo_56 ha0 rfl d_Mo_folds_50 ?_
      refine g_top (g_rf hnb3) ?_
      refine g_iconst (pc := 53) C (0 : Int32) d_Mo_folds_53 (by decide) ?_
      refine g_aload_n (pc := 54) C d_Mo_folds_54 rfl 0 rfl ?_
      obtain ⟨b4, hnb4, hb4, h⟩ := o_ra h
      refine g_get (pc := 55) (k := 5) (v := va_rf ((N a0 5).map ad)) C gcX11 inX11 (by decide) fl_Mo_23 ha0 rfl d_Mo_folds_55 ?_
      refine g_top (g_rf hnb4) ?_
      refine g_iconst (pc := 58) C (5 : Int32) d_Mo_folds_58 (by decide) ?_
      refine g_iload_n (pc := 59) C d_Mo_folds_59 rfl 1 rfl ?_
      refine g_imul (pc := 60) C d_Mo_folds_60 ?_
      obtain ⟨hi5, h⟩ := o_gd h
      refine g_iald (pc := 61) C hb4 hi5 d_Mo_folds_61 ?_
      refine g_if_ne (pc := 62) C 69 d_Mo_folds_62 rfl (fun e6 => ?_) (fun e6 => ?_)
      · have h := o_neg e6 h
        refine g_lconst (pc := 69) C (1 : Int64) d_Mo_folds_69 (by decide) ?_
        refine g_lv [0, 1] rfl ?_
        exact w_Mo_folds_70 C ha0 hb3 hk35 h
      · have h := o_pos e6 h
        refine g_lconst (pc := 65) C (0 : Int64) d_Mo_folds_65 (by decide) ?_
        refine g_goto (pc := 66) C 70 d_Mo_folds_66 rfl ?_
        refine g_lv [0, 1] rfl ?_
        exact w_Mo_folds_70 C ha0 hb3 hk35 h
set_option maxRecDepth 20000 in
theorem w_Mo_folds_35 {X : HX} {ad : Nat → Nat} {I : HI} {N : HN} {r : HJ} {a0 : Nat} (C : Cx X c_Mo_folds RX11 3 none rm_Mo_folds) (ha0 : gk Tm nM a0 (0, 11)) : ∀ (n : Nat) (J : HJ) (x1 : Int32), Mo_folds_35 I N a0 n J x1 = some r → G Tm X ad nM 0 0 I J N (gE X Tm ad nM (I, r, N, fun _ => none)) 35 3 [(0, .ref (ad a0)), (1, .int x1)] [] := by
  intro n
  induction n with
  | zero => intro J x1 h; cases h
  | succ n ih => intro J x1 h; exact w_Mo_folds_35b C ha0 ih h
set_option maxRecDepth 20000 in
theorem w_Mo_folds_2b {X : HX} {ad : Nat → Nat} {I : HI} {J : HJ} {N : HN} {r : HJ} {k2 : HJ → Int32 → Option (HJ)} {a0 : Nat} {x1 : Int32} (C : Cx X c_Mo_folds RX11 3 none rm_Mo_folds) (ha0 : gk Tm nM a0 (0, 11))
    (hk2 : ∀ (J : HJ) (x1 : Int32), k2 J x1 = some r → G Tm X ad nM 0 0 I J N (gE X Tm ad nM (I, r, N, fun _ => none)) 2 3 [(0, .ref (ad a0)), (1, .int x1)] [])
    (h : Mo_folds_2b I N a0 k2 J x1 = some r) : G Tm X ad nM 0 0 I J N (gE X Tm ad nM (I, r, N, fun _ => none)) 2 3 [(0, .ref (ad a0)), (1, .int x1)] [] := by
  refine g_iload_n (pc := 2) C d_Mo_folds_2 rfl 1 rfl ?_
  refine g_bipush (pc := 3) C (14 : Int32) d_Mo_folds_3 (by decide) ?_
  refine g_icmp_ge (pc := 5) C 28 d_Mo_folds_5 rfl (fun e1 => ?_) (fun e1 => ?_)
  · have h := o_pos e1 h
    refine g_aload_n (pc := 28) C d_Mo_folds_28 rfl 0 rfl ?_
    refine g_get (pc := 29) (k := 6) (v := .int (I a0 6)) C gcX11 inX11 (by decide) fl_Mo_159 ha0 rfl d_Mo_folds_29 ?_
    refine g_iconst (pc := 32) C (1 : Int32) d_Mo_folds_32 (by decide) ?_
    refine g_isub (pc := 33) C d_Mo_folds_33 ?_
    obtain ⟨v2, ev2, h⟩ := o_bd h
    refine g_topi ev2 ?_
    refine g_istore_n (pc := 34) (lv' := [(1, .int v2), (0, .ref (ad a0))]) C d_Mo_folds_34 rfl (by decide) rfl ?_
    refine g_lv [1, 0] rfl ?_
    exact w_Mo_folds_35 C ha0 _ _ _ h
  · have h := o_neg e1 h
    refine g_aload_n (pc := 8) C d_Mo_folds_8 rfl 0 rfl ?_
    obtain ⟨b3, hnb3, hb3, h⟩ := o_ra h
    refine g_get (pc := 9) (k := 23) (v := va_rf ((N a0 23).map ad)) C gcX11 inX11 (by decide) fl_Mo_56 ha0 rfl d_Mo_folds_9 ?_
    refine g_top (g_rf hnb3) ?_
    refine g_iload_n (pc := 12) C d_Mo_folds_12 rfl 1 rfl ?_
    refine g_lconst (pc := 13) C (0 : Int64) d_Mo_folds_13 (by decide) ?_
    obtain ⟨hi4, h⟩ := o_gd h
    refine g_last (pc := 14) C hb3 hi4 d_Mo_folds_14 ?_
    obtain ⟨J5, eJ5, h⟩ := o_bd h
    rw [← eJ5]
    refine g_aload_n (pc := 15) C d_Mo_folds_15 rfl 0 rfl ?_
    obtain ⟨b6, hnb6, hb6, h⟩ := o_ra h
    refine g_get (pc := 16) (k := 24) (v := va_rf ((N a0 24).map ad)) C gcX11 inX11 (by decide) fl_Mo_59 ha0 rfl d_Mo_folds_16 ?_
    refine g_top (g_rf hnb6) ?_
    refine g_iload_n (pc := 19) C d_Mo_folds_19 rfl 1 rfl ?_
    refine g_lconst (pc := 20) C (0 : Int64) d_Mo_folds_20 (by decide) ?_
    obtain ⟨hi7, h⟩ := o_gd h
    refine g_last (pc := 21) C hb6 hi7 d_Mo_folds_21 ?_
    obtain ⟨J8, eJ8, h⟩ := o_bd h
    rw [← eJ8]
    refine g_iinc (pc := 22) (q := 1) (lv' := [(1, .int (x1 + 1)), (0, .ref (ad a0))]) C d_Mo_folds_22 rfl rfl (by decide) rfl ?_
    refine g_goto (pc := 25) C 2 d_Mo_folds_25 rfl ?_
    refine g_lv [1, 0] rfl ?_
    exact hk2 _ _ h
set_option maxRecDepth 20000 in
theorem w_Mo_folds_2 {X : HX} {ad : Nat → Nat} {I : HI} {N : HN} {r : HJ} {a0 : Nat} (C : Cx X c_Mo_folds RX11 3 none rm_Mo_folds) (ha0 : gk Tm nM a0 (0, 11)) : ∀ (n : Nat) (J : HJ) (x1 : Int32), Mo_folds_2 I N a0 n J x1 = some r → G Tm X ad nM 0 0 I J N (gE X Tm ad nM (I, r, N, fun _ => none)) 2 3 [(0, .ref (ad a0)), (1, .int x1)] [] := by
  intro n
  induction n with
  | zero => intro J x1 h; cases h
  | succ n ih => intro J x1 h; exact w_Mo_folds_2b C ha0 ih h
set_option maxRecDepth 20000 in
theorem w_Mo_folds_0 {X : HX} {ad : Nat → Nat} {I : HI} {J : HJ} {N : HN} {r : HJ} {a0 : Nat} (C : Cx X c_Mo_folds RX11 3 none rm_Mo_folds) (ha0 : gk Tm nM a0 (0, 11))
    (h : Mo_folds_0 I N a0 J = some r) : G Tm X ad nM 0 0 I J N (gE X Tm ad nM (I, r, N, fun _ => none)) 0 3 [(0, .ref (ad a0))] [] := by
  refine g_iconst (pc := 0) C (0 : Int32) d_Mo_folds_0 (by decide) ?_
  refine g_istore_n (pc := 1) (lv' := [(1, .int (0 : Int32)), (0, .ref (ad a0))]) C d_Mo_folds_1 rfl (by decide) rfl ?_
  refine g_lv [1, 0] rfl ?_
  exact w_Mo_folds_2 C ha0 _ _ _ h
set_option maxRecDepth 20000 in
theorem k_Mo_folds (l : Launch) {I : HI} {J : HJ} {N : HN} {a0 : Nat} {r : HJ} (ha0 : gk Tm nM a0 (0, 11)) (h : Mo_folds I N a0 J = some r) : gM l y_Mo_folds c_Mo_folds 3 none rm_Mo_folds Tm nM I J N (fun ad => [.ref (ad a0)]) (I, r, N, fun _ => none) :=
  g_meth (lv := fun ad => [(0, .ref (ad a0))]) (by decide) (fun _ => Nat.le_of_ble_eq_true rfl) (fun _ => rfl) (fun X ad C => g_lv [0] rfl (w_Mo_folds_0 C ha0 h))
theorem d_Mo_foldBy_0 : decode c_Mo_foldBy 0 = .ok (.aload_n 0, 1) := by decide +kernel
theorem d_Mo_foldBy_1 : decode c_Mo_foldBy 1 = .ok (.getfield 159, 3) := by decide +kernel
theorem d_Mo_foldBy_4 : decode c_Mo_foldBy 4 = .ok (.ifCond .ne 7, 3) := by decide +kernel
theorem d_Mo_foldBy_7 : decode c_Mo_foldBy 7 = .ok (.lconst 0, 1) := by decide +kernel
theorem d_Mo_foldBy_8 : decode c_Mo_foldBy 8 = .ok (.goto 22, 3) := by decide +kernel
theorem d_Mo_foldBy_11 : decode c_Mo_foldBy 11 = .ok (.iload_n 1, 1) := by decide +kernel
theorem d_Mo_foldBy_12 : decode c_Mo_foldBy 12 = .ok (.ifCond .ne 12, 3) := by decide +kernel
theorem d_Mo_foldBy_15 : decode c_Mo_foldBy 15 = .ok (.aload_n 0, 1) := by decide +kernel
theorem d_Mo_foldBy_16 : decode c_Mo_foldBy 16 = .ok (.getfield 56, 3) := by decide +kernel
theorem d_Mo_foldBy_19 : decode c_Mo_foldBy 19 = .ok (.iload_n 2, 1) := by decide +kernel
theorem d_Mo_foldBy_20 : decode c_Mo_foldBy 20 = .ok (.laload, 1) := by decide +kernel
theorem d_Mo_foldBy_21 : decode c_Mo_foldBy 21 = .ok (.goto 9, 3) := by decide +kernel
theorem d_Mo_foldBy_24 : decode c_Mo_foldBy 24 = .ok (.aload_n 0, 1) := by decide +kernel
theorem d_Mo_foldBy_25 : decode c_Mo_foldBy 25 = .ok (.getfield 59, 3) := by decide +kernel
theorem d_Mo_foldBy_28 : decode c_Mo_foldBy 28 = .ok (.iload_n 2, 1) := by decide +kernel
theorem d_Mo_foldBy_29 : decode c_Mo_foldBy 29 = .ok (.laload, 1) := by decide +kernel
theorem d_Mo_foldBy_30 : decode c_Mo_foldBy 30 = .ok (.lreturn, 1) := by decide +kernel
set_option maxRecDepth 20000 in
theorem w_Mo_foldBy_0 {X : HX} {ad : Nat → Nat} {I : HI} {J : HJ} {N : HN} {r : Int64} {a0 : Nat} {p1 : Int32} {p2 : Int32} (C : Cx X c_Mo_foldBy RX11 3 (some .long) rm_Mo_foldBy) (ha0 : gk Tm nM a0 (0, 11))
    (h : Mo_foldBy_0 I J N a0 p1 p2 = some r) : G Tm X ad nM 0 0 I J N (gE X Tm ad nM (I, J, N, fun _ => some (.long r))) 0 3 [(0, .ref (ad a0)), (1, .int p1), (2, .int p2)] [] := by
  refine g_aload_n (pc := 0) C d_Mo_foldBy_0 rfl 0 rfl ?_
  refine g_get (pc := 1) (k := 6) (v := .int (I a0 6)) C gcX11 inX11 (by decide) fl_Mo_159 ha0 rfl d_Mo_foldBy_1 ?_
  refine g_if_ne (pc := 4) C 11 d_Mo_foldBy_4 rfl (fun e1 => ?_) (fun e1 => ?_)
  · have h := o_neg e1 h
    refine g_iload_n (pc := 11) C d_Mo_foldBy_11 rfl 1 rfl ?_
    refine g_if_ne (pc := 12) C 24 d_Mo_foldBy_12 rfl (fun e2 => ?_) (fun e2 => ?_)
    · have h := o_neg e2 h
      refine g_aload_n (pc := 24) C d_Mo_foldBy_24 rfl 0 rfl ?_
      obtain ⟨b3, hnb3, hb3, h⟩ := o_ra h
      refine g_get (pc := 25) (k := 24) (v := va_rf ((N a0 24).map ad)) C gcX11 inX11 (by decide) fl_Mo_59 ha0 rfl d_Mo_foldBy_25 ?_
      refine g_top (g_rf hnb3) ?_
      refine g_iload_n (pc := 28) C d_Mo_foldBy_28 rfl 2 rfl ?_
      obtain ⟨hi4, h⟩ := o_gd h
      refine g_lald (pc := 29) C hb3 hi4 d_Mo_foldBy_29 ?_
      obtain rfl := o_ret h
      exact g_lret (pc := 30) C d_Mo_foldBy_30
    · have h := o_pos e2 h
      refine g_aload_n (pc := 15) C d_Mo_foldBy_15 rfl 0 rfl ?_
      obtain ⟨b5, hnb5, hb5, h⟩ := o_ra h
      refine g_get (pc := 16) (k := 23) (v := va_rf ((N a0 23).map ad)) C gcX11 inX11 (by decide) fl_Mo_56 ha0 rfl d_Mo_foldBy_16 ?_
      refine g_top (g_rf hnb5) ?_
      refine g_iload_n (pc := 19) C d_Mo_foldBy_19 rfl 2 rfl ?_
      obtain ⟨hi6, h⟩ := o_gd h
      refine g_lald (pc := 20) C hb5 hi6 d_Mo_foldBy_20 ?_
      refine g_goto (pc := 21) C 30 d_Mo_foldBy_21 rfl ?_
      obtain rfl := o_ret h
      exact g_lret (pc := 30) C d_Mo_foldBy_30
  · have h := o_pos e1 h
    refine g_lconst (pc := 7) C (0 : Int64) d_Mo_foldBy_7 (by decide) ?_
    refine g_goto (pc := 8) C 30 d_Mo_foldBy_8 rfl ?_
    obtain rfl := o_ret h
    exact g_lret (pc := 30) C d_Mo_foldBy_30
set_option maxRecDepth 20000 in
theorem k_Mo_foldBy (l : Launch) {I : HI} {J : HJ} {N : HN} {a0 : Nat} {p1 : Int32} {p2 : Int32} {r : Int64} (ha0 : gk Tm nM a0 (0, 11)) (h : Mo_foldBy I J N a0 p1 p2 = some r) : gM l y_Mo_foldBy c_Mo_foldBy 3 (some .long) rm_Mo_foldBy Tm nM I J N (fun ad => [.ref (ad a0), .int p1, .int p2]) (I, J, N, fun _ => some (.long r)) :=
  g_meth (lv := fun ad => [(0, .ref (ad a0)), (1, .int p1), (2, .int p2)]) (by decide) (fun _ => Nat.le_of_ble_eq_true rfl) (fun _ => rfl) (fun X ad C => g_lv [0, 1, 2] rfl (w_Mo_foldBy_0 C ha0 h))
theorem d_Mo_fold_0 : decode c_Mo_fold 0 = .ok (.aload_n 0, 1) := by decide +kernel
theorem d_Mo_fold_1 : decode c_Mo_fold 1 = .ok (.invokevirtual 285, 3) := by decide +kernel
theorem d_Mo_fold_4 : decode c_Mo_fold 4 = .ok (.iload_n 1, 1) := by decide +kernel
theorem d_Mo_fold_5 : decode c_Mo_fold 5 = .ok (.invokestatic 111, 3) := by decide +kernel
theorem d_Mo_fold_8 : decode c_Mo_fold 8 = .ok (.ifCond .eq 24, 3) := by decide +kernel
theorem d_Mo_fold_11 : decode c_Mo_fold 11 = .ok (.iload_n 2, 1) := by decide +kernel
theorem d_Mo_fold_12 : decode c_Mo_fold 12 = .ok (.i2l, 1) := by decide +kernel
theorem d_Mo_fold_13 : decode c_Mo_fold 13 = .ok (.lconst 0, 1) := by decide +kernel
theorem d_Mo_fold_14 : decode c_Mo_fold 14 = .ok (.ldc2_w 114, 3) := by decide +kernel
theorem d_Mo_fold_17 : decode c_Mo_fold 17 = .ok (.invokestatic 83, 3) := by decide +kernel
theorem d_Mo_fold_20 : decode c_Mo_fold 20 = .ok (.ifCond .eq 12, 3) := by decide +kernel
theorem d_Mo_fold_23 : decode c_Mo_fold 23 = .ok (.aload_n 0, 1) := by decide +kernel
theorem d_Mo_fold_24 : decode c_Mo_fold 24 = .ok (.iload_n 1, 1) := by decide +kernel
theorem d_Mo_fold_25 : decode c_Mo_fold 25 = .ok (.iload_n 2, 1) := by decide +kernel
theorem d_Mo_fold_26 : decode c_Mo_fold 26 = .ok (.invokevirtual 288, 3) := by decide +kernel
theorem d_Mo_fold_29 : decode c_Mo_fold 29 = .ok (.goto 4, 3) := by decide +kernel
theorem d_Mo_fold_32 : decode c_Mo_fold 32 = .ok (.lconst 0, 1) := by decide +kernel
theorem d_Mo_fold_33 : decode c_Mo_fold 33 = .ok (.lreturn, 1) := by decide +kernel
set_option maxRecDepth 20000 in
theorem w_Mo_fold_0 {X : HX} {ad : Nat → Nat} {I : HI} {J : HJ} {N : HN} {r : HJ × Int64} {a0 : Nat} {p1 : Int32} {p2 : Int32} (C : Cx X c_Mo_fold RX11 3 (some .long) rm_Mo_fold) (ha0 : gk Tm nM a0 (0, 11))
    (h : Mo_fold_0 I N a0 p1 p2 J = some r) : G Tm X ad nM 0 0 I J N (gE X Tm ad nM (I, r.1, N, fun _ => some (.long r.2))) 0 3 [(0, .ref (ad a0)), (1, .int p1), (2, .int p2)] [] := by
  refine g_aload_n (pc := 0) C d_Mo_fold_0 rfl 0 rfl ?_
  obtain ⟨J1, hc2, h⟩ := o_bn1 h
  refine g_V (pc := 1) (rest := []) C (k_Mo_folds (xl X) ha0 hc2) sm_Mo_folds ml_Mo_285 im_Mo_folds se_Mo_folds gcX11 rfl ha0 ⟨rfl, rfl, Nat.le_of_ble_eq_true rfl, Nat.le_of_ble_eq_true rfl⟩ ⟨Nat.zero_le _, Nat.zero_le _⟩ rfl rfl (Nat.le_of_ble_eq_true rfl) d_Mo_fold_1 [] rfl ?_
  refine g_iload_n (pc := 4) C d_Mo_fold_4 rfl 1 rfl ?_
  obtain ⟨r3, hc4, h⟩ := o_bn1 h
  refine g_S (pc := 5) (rest := []) C (k_Mo_isTwo (xl X)  hc4) sm_Mo_isTwo ml_Mo_111 st_Mo_isTwo ⟨rfl, rfl, Nat.le_of_ble_eq_true rfl, Nat.le_of_ble_eq_true rfl⟩ ⟨Nat.zero_le _, Nat.zero_le _⟩ rfl rfl (Nat.le_of_ble_eq_true rfl) d_Mo_fold_5 [.int r3] rfl ?_
  refine g_if_eq (pc := 8) C 32 d_Mo_fold_8 rfl (fun e5 => ?_) (fun e5 => ?_)
  · have h := o_pos e5 h
    refine g_lconst (pc := 32) C (0 : Int64) d_Mo_fold_32 (by decide) ?_
    obtain rfl := o_ret h
    exact g_lret (pc := 33) C d_Mo_fold_33
  · have h := o_neg e5 h
    refine g_iload_n (pc := 11) C d_Mo_fold_11 rfl 2 rfl ?_
    refine g_i2l (pc := 12) C d_Mo_fold_12 ?_
    refine g_lconst (pc := 13) C (0 : Int64) d_Mo_fold_13 (by decide) ?_
    refine g_ldc2 (pc := 14) C kc_Mo_114 d_Mo_fold_14 ?_
    obtain ⟨r6, hc7, h⟩ := o_bn1 h
    refine g_S (pc := 17) (rest := []) C (k_Mo_in (xl X)  hc7) sm_Mo_in ml_Mo_83 st_Mo_in ⟨rfl, rfl, Nat.le_of_ble_eq_true rfl, Nat.le_of_ble_eq_true rfl⟩ ⟨Nat.zero_le _, Nat.zero_le _⟩ rfl rfl (Nat.le_of_ble_eq_true rfl) d_Mo_fold_17 [.int r6] rfl ?_
    refine g_if_eq (pc := 20) C 32 d_Mo_fold_20 rfl (fun e8 => ?_) (fun e8 => ?_)
    · have h := o_pos e8 h
      refine g_lconst (pc := 32) C (0 : Int64) d_Mo_fold_32 (by decide) ?_
      obtain rfl := o_ret h
      exact g_lret (pc := 33) C d_Mo_fold_33
    · have h := o_neg e8 h
      refine g_aload_n (pc := 23) C d_Mo_fold_23 rfl 0 rfl ?_
      refine g_iload_n (pc := 24) C d_Mo_fold_24 rfl 1 rfl ?_
      refine g_iload_n (pc := 25) C d_Mo_fold_25 rfl 2 rfl ?_
      obtain ⟨r9, hc10, h⟩ := o_bn1 h
      refine g_V (pc := 26) (rest := []) C (k_Mo_foldBy (xl X) ha0 hc10) sm_Mo_foldBy ml_Mo_288 im_Mo_foldBy se_Mo_foldBy gcX11 rfl ha0 ⟨rfl, rfl, Nat.le_of_ble_eq_true rfl, Nat.le_of_ble_eq_true rfl⟩ ⟨Nat.zero_le _, Nat.zero_le _⟩ rfl rfl (Nat.le_of_ble_eq_true rfl) d_Mo_fold_26 [.long r9] rfl ?_
      refine g_goto (pc := 29) C 33 d_Mo_fold_29 rfl ?_
      obtain rfl := o_ret h
      exact g_lret (pc := 33) C d_Mo_fold_33
set_option maxRecDepth 20000 in
theorem k_Mo_fold (l : Launch) {I : HI} {J : HJ} {N : HN} {a0 : Nat} {p1 : Int32} {p2 : Int32} {r : HJ × Int64} (ha0 : gk Tm nM a0 (0, 11)) (h : Mo_fold I N a0 p1 p2 J = some r) : gM l y_Mo_fold c_Mo_fold 3 (some .long) rm_Mo_fold Tm nM I J N (fun ad => [.ref (ad a0), .int p1, .int p2]) (I, r.1, N, fun _ => some (.long r.2)) :=
  g_meth (lv := fun ad => [(0, .ref (ad a0)), (1, .int p1), (2, .int p2)]) (by decide) (fun _ => Nat.le_of_ble_eq_true rfl) (fun _ => rfl) (fun X ad C => g_lv [0, 1, 2] rfl (w_Mo_fold_0 C ha0 h))
theorem d_Mo_alikeNow_0 : decode c_Mo_alikeNow 0 = .ok (.aload_n 0, 1) := by decide +kernel
theorem d_Mo_alikeNow_1 : decode c_Mo_alikeNow 1 = .ok (.getfield 159, 3) := by decide +kernel
theorem d_Mo_alikeNow_4 : decode c_Mo_alikeNow 4 = .ok (.ifCond .eq 12, 3) := by decide +kernel
theorem d_Mo_alikeNow_7 : decode c_Mo_alikeNow 7 = .ok (.aload_n 0, 1) := by decide +kernel
theorem d_Mo_alikeNow_8 : decode c_Mo_alikeNow 8 = .ok (.iconst 1, 1) := by decide +kernel
theorem d_Mo_alikeNow_9 : decode c_Mo_alikeNow 9 = .ok (.invokevirtual 128, 3) := by decide +kernel
theorem d_Mo_alikeNow_12 : decode c_Mo_alikeNow 12 = .ok (.iconst (-1), 1) := by decide +kernel
theorem d_Mo_alikeNow_13 : decode c_Mo_alikeNow 13 = .ok (.if_icmp .ne 6, 3) := by decide +kernel
theorem d_Mo_alikeNow_16 : decode c_Mo_alikeNow 16 = .ok (.bipush (-3), 2) := by decide +kernel
theorem d_Mo_alikeNow_18 : decode c_Mo_alikeNow 18 = .ok (.ireturn, 1) := by decide +kernel
theorem d_Mo_alikeNow_19 : decode c_Mo_alikeNow 19 = .ok (.iconst 1, 1) := by decide +kernel
theorem d_Mo_alikeNow_20 : decode c_Mo_alikeNow 20 = .ok (.istore_n 1, 1) := by decide +kernel
theorem d_Mo_alikeNow_21 : decode c_Mo_alikeNow 21 = .ok (.iconst 0, 1) := by decide +kernel
theorem d_Mo_alikeNow_22 : decode c_Mo_alikeNow 22 = .ok (.istore_n 2, 1) := by decide +kernel
theorem d_Mo_alikeNow_23 : decode c_Mo_alikeNow 23 = .ok (.iload_n 2, 1) := by decide +kernel
theorem d_Mo_alikeNow_24 : decode c_Mo_alikeNow 24 = .ok (.bipush 20, 2) := by decide +kernel
theorem d_Mo_alikeNow_26 : decode c_Mo_alikeNow 26 = .ok (.if_icmp .ge 132, 3) := by decide +kernel
theorem d_Mo_alikeNow_29 : decode c_Mo_alikeNow 29 = .ok (.lconst 0, 1) := by decide +kernel
theorem d_Mo_alikeNow_30 : decode c_Mo_alikeNow 30 = .ok (.lstore_n 3, 1) := by decide +kernel
theorem d_Mo_alikeNow_31 : decode c_Mo_alikeNow 31 = .ok (.lconst 0, 1) := by decide +kernel
theorem d_Mo_alikeNow_32 : decode c_Mo_alikeNow 32 = .ok (.lstore 5, 2) := by decide +kernel
theorem d_Mo_alikeNow_34 : decode c_Mo_alikeNow 34 = .ok (.iconst 0, 1) := by decide +kernel
theorem d_Mo_alikeNow_35 : decode c_Mo_alikeNow 35 = .ok (.istore 7, 2) := by decide +kernel
theorem d_Mo_alikeNow_37 : decode c_Mo_alikeNow 37 = .ok (.iload 7, 2) := by decide +kernel
theorem d_Mo_alikeNow_39 : decode c_Mo_alikeNow 39 = .ok (.bipush 7, 2) := by decide +kernel
theorem d_Mo_alikeNow_41 : decode c_Mo_alikeNow 41 = .ok (.if_icmp .ge 94, 3) := by decide +kernel
theorem d_Mo_alikeNow_44 : decode c_Mo_alikeNow 44 = .ok (.lload_n 3, 1) := by decide +kernel
theorem d_Mo_alikeNow_45 : decode c_Mo_alikeNow 45 = .ok (.iload_n 2, 1) := by decide +kernel
theorem d_Mo_alikeNow_46 : decode c_Mo_alikeNow 46 = .ok (.iload 7, 2) := by decide +kernel
theorem d_Mo_alikeNow_48 : decode c_Mo_alikeNow 48 = .ok (.isub, 1) := by decide +kernel
theorem d_Mo_alikeNow_49 : decode c_Mo_alikeNow 49 = .ok (.i2l, 1) := by decide +kernel
theorem d_Mo_alikeNow_50 : decode c_Mo_alikeNow 50 = .ok (.lconst 0, 1) := by decide +kernel
theorem d_Mo_alikeNow_51 : decode c_Mo_alikeNow 51 = .ok (.ldc2_w 292, 3) := by decide +kernel
theorem d_Mo_alikeNow_54 : decode c_Mo_alikeNow 54 = .ok (.invokestatic 83, 3) := by decide +kernel
theorem d_Mo_alikeNow_57 : decode c_Mo_alikeNow 57 = .ok (.ifCond .eq 27, 3) := by decide +kernel
theorem d_Mo_alikeNow_60 : decode c_Mo_alikeNow 60 = .ok (.aload_n 0, 1) := by decide +kernel
theorem d_Mo_alikeNow_61 : decode c_Mo_alikeNow 61 = .ok (.getfield 20, 3) := by decide +kernel
theorem d_Mo_alikeNow_64 : decode c_Mo_alikeNow 64 = .ok (.bipush 7, 2) := by decide +kernel
theorem d_Mo_alikeNow_66 : decode c_Mo_alikeNow 66 = .ok (.iload 7, 2) := by decide +kernel
theorem d_Mo_alikeNow_68 : decode c_Mo_alikeNow 68 = .ok (.iadd, 1) := by decide +kernel
theorem d_Mo_alikeNow_69 : decode c_Mo_alikeNow 69 = .ok (.iaload, 1) := by decide +kernel
theorem d_Mo_alikeNow_70 : decode c_Mo_alikeNow 70 = .ok (.i2l, 1) := by decide +kernel
theorem d_Mo_alikeNow_71 : decode c_Mo_alikeNow 71 = .ok (.aload_n 0, 1) := by decide +kernel
theorem d_Mo_alikeNow_72 : decode c_Mo_alikeNow 72 = .ok (.getfield 56, 3) := by decide +kernel
theorem d_Mo_alikeNow_75 : decode c_Mo_alikeNow 75 = .ok (.iload_n 2, 1) := by decide +kernel
theorem d_Mo_alikeNow_76 : decode c_Mo_alikeNow 76 = .ok (.iload 7, 2) := by decide +kernel
theorem d_Mo_alikeNow_78 : decode c_Mo_alikeNow 78 = .ok (.isub, 1) := by decide +kernel
theorem d_Mo_alikeNow_79 : decode c_Mo_alikeNow 79 = .ok (.laload, 1) := by decide +kernel
theorem d_Mo_alikeNow_80 : decode c_Mo_alikeNow 80 = .ok (.lmul, 1) := by decide +kernel
theorem d_Mo_alikeNow_81 : decode c_Mo_alikeNow 81 = .ok (.goto 4, 3) := by decide +kernel
theorem d_Mo_alikeNow_84 : decode c_Mo_alikeNow 84 = .ok (.lconst 0, 1) := by decide +kernel
theorem d_Mo_alikeNow_85 : decode c_Mo_alikeNow 85 = .ok (.ladd, 1) := by decide +kernel
theorem d_Mo_alikeNow_86 : decode c_Mo_alikeNow 86 = .ok (.lstore_n 3, 1) := by decide +kernel
theorem d_Mo_alikeNow_87 : decode c_Mo_alikeNow 87 = .ok (.lload 5, 2) := by decide +kernel
theorem d_Mo_alikeNow_89 : decode c_Mo_alikeNow 89 = .ok (.iload_n 2, 1) := by decide +kernel
theorem d_Mo_alikeNow_90 : decode c_Mo_alikeNow 90 = .ok (.iload 7, 2) := by decide +kernel
theorem d_Mo_alikeNow_92 : decode c_Mo_alikeNow 92 = .ok (.isub, 1) := by decide +kernel
theorem d_Mo_alikeNow_93 : decode c_Mo_alikeNow 93 = .ok (.i2l, 1) := by decide +kernel
theorem d_Mo_alikeNow_94 : decode c_Mo_alikeNow 94 = .ok (.lconst 0, 1) := by decide +kernel
theorem d_Mo_alikeNow_95 : decode c_Mo_alikeNow 95 = .ok (.ldc2_w 292, 3) := by decide +kernel
theorem d_Mo_alikeNow_98 : decode c_Mo_alikeNow 98 = .ok (.invokestatic 83, 3) := by decide +kernel
theorem d_Mo_alikeNow_101 : decode c_Mo_alikeNow 101 = .ok (.ifCond .eq 24, 3) := by decide +kernel
theorem d_Mo_alikeNow_104 : decode c_Mo_alikeNow 104 = .ok (.aload_n 0, 1) := by decide +kernel
theorem d_Mo_alikeNow_105 : decode c_Mo_alikeNow 105 = .ok (.getfield 20, 3) := by decide +kernel
theorem d_Mo_alikeNow_108 : decode c_Mo_alikeNow 108 = .ok (.iload 7, 2) := by decide +kernel
theorem d_Mo_alikeNow_110 : decode c_Mo_alikeNow 110 = .ok (.iaload, 1) := by decide +kernel
theorem d_Mo_alikeNow_111 : decode c_Mo_alikeNow 111 = .ok (.i2l, 1) := by decide +kernel
theorem d_Mo_alikeNow_112 : decode c_Mo_alikeNow 112 = .ok (.aload_n 0, 1) := by decide +kernel
theorem d_Mo_alikeNow_113 : decode c_Mo_alikeNow 113 = .ok (.getfield 59, 3) := by decide +kernel
theorem d_Mo_alikeNow_116 : decode c_Mo_alikeNow 116 = .ok (.iload_n 2, 1) := by decide +kernel
theorem d_Mo_alikeNow_117 : decode c_Mo_alikeNow 117 = .ok (.iload 7, 2) := by decide +kernel
theorem d_Mo_alikeNow_119 : decode c_Mo_alikeNow 119 = .ok (.isub, 1) := by decide +kernel
theorem d_Mo_alikeNow_120 : decode c_Mo_alikeNow 120 = .ok (.laload, 1) := by decide +kernel
theorem d_Mo_alikeNow_121 : decode c_Mo_alikeNow 121 = .ok (.lmul, 1) := by decide +kernel
theorem d_Mo_alikeNow_122 : decode c_Mo_alikeNow 122 = .ok (.goto 4, 3) := by decide +kernel
theorem d_Mo_alikeNow_125 : decode c_Mo_alikeNow 125 = .ok (.lconst 0, 1) := by decide +kernel
theorem d_Mo_alikeNow_126 : decode c_Mo_alikeNow 126 = .ok (.ladd, 1) := by decide +kernel
theorem d_Mo_alikeNow_127 : decode c_Mo_alikeNow 127 = .ok (.lstore 5, 2) := by decide +kernel
theorem d_Mo_alikeNow_129 : decode c_Mo_alikeNow 129 = .ok (.iinc 7 1, 3) := by decide +kernel
theorem d_Mo_alikeNow_132 : decode c_Mo_alikeNow 132 = .ok (.goto (-95), 3) := by decide +kernel
theorem d_Mo_alikeNow_135 : decode c_Mo_alikeNow 135 = .ok (.iload_n 1, 1) := by decide +kernel
theorem d_Mo_alikeNow_136 : decode c_Mo_alikeNow 136 = .ok (.ifCond .eq 14, 3) := by decide +kernel
theorem d_Mo_alikeNow_139 : decode c_Mo_alikeNow 139 = .ok (.lload_n 3, 1) := by decide +kernel
theorem d_Mo_alikeNow_140 : decode c_Mo_alikeNow 140 = .ok (.lload 5, 2) := by decide +kernel
theorem d_Mo_alikeNow_142 : decode c_Mo_alikeNow 142 = .ok (.lcmp, 1) := by decide +kernel
theorem d_Mo_alikeNow_143 : decode c_Mo_alikeNow 143 = .ok (.ifCond .ne 7, 3) := by decide +kernel
theorem d_Mo_alikeNow_146 : decode c_Mo_alikeNow 146 = .ok (.iconst 1, 1) := by decide +kernel
theorem d_Mo_alikeNow_147 : decode c_Mo_alikeNow 147 = .ok (.goto 4, 3) := by decide +kernel
theorem d_Mo_alikeNow_150 : decode c_Mo_alikeNow 150 = .ok (.iconst 0, 1) := by decide +kernel
theorem d_Mo_alikeNow_151 : decode c_Mo_alikeNow 151 = .ok (.istore_n 1, 1) := by decide +kernel
theorem d_Mo_alikeNow_152 : decode c_Mo_alikeNow 152 = .ok (.iinc 2 1, 3) := by decide +kernel
theorem d_Mo_alikeNow_155 : decode c_Mo_alikeNow 155 = .ok (.goto (-132), 3) := by decide +kernel
theorem d_Mo_alikeNow_158 : decode c_Mo_alikeNow 158 = .ok (.iload_n 1, 1) := by decide +kernel
theorem d_Mo_alikeNow_159 : decode c_Mo_alikeNow 159 = .ok (.ifCond .eq 7, 3) := by decide +kernel
theorem d_Mo_alikeNow_162 : decode c_Mo_alikeNow 162 = .ok (.iconst 1, 1) := by decide +kernel
theorem d_Mo_alikeNow_163 : decode c_Mo_alikeNow 163 = .ok (.goto 4, 3) := by decide +kernel
theorem d_Mo_alikeNow_166 : decode c_Mo_alikeNow 166 = .ok (.iconst 0, 1) := by decide +kernel
theorem d_Mo_alikeNow_167 : decode c_Mo_alikeNow 167 = .ok (.ireturn, 1) := by decide +kernel
set_option maxRecDepth 20000 in
theorem w_Mo_alikeNow_151 {X : HX} {ad : Nat → Nat} {I : HI} {J : HJ} {N : HN} {r : Int32} {k23 : Int32 → Int32 → Option (Int32)} {a0 : Nat} {x2 : Int32} {s0 : Int32} (C : Cx X c_Mo_alikeNow RX11 8 (some .int) rm_Mo_alikeNow) (ha0 : gk Tm nM a0 (0, 11))
    (hk23 : ∀ (x1 : Int32) (x2 : Int32), k23 x1 x2 = some r → G Tm X ad nM 0 0 I J N (gE X Tm ad nM (I, J, N, fun _ => some (.int r))) 23 8 [(0, .ref (ad a0)), (1, .int x1), (2, .int x2)] [])
    (h : Mo_alikeNow_151 I J N a0 k23 x2 s0 = some r) : G Tm X ad nM 0 0 I J N (gE X Tm ad nM (I, J, N, fun _ => some (.int r))) 151 8 [(0, .ref (ad a0)), (2, .int x2)] [.int s0] := by
  refine g_istore_n (pc := 151) (lv' := [(1, .int s0), (0, .ref (ad a0)), (2, .int x2)]) C d_Mo_alikeNow_151 rfl (by decide) rfl ?_
  refine g_iinc (pc := 152) (q := 2) (lv' := [(2, .int (x2 + 1)), (1, .int s0), (0, .ref (ad a0))]) C d_Mo_alikeNow_152 rfl rfl (by decide) rfl ?_
  refine g_goto (pc := 155) C 23 d_Mo_alikeNow_155 rfl ?_
  refine g_lv [2, 1, 0] rfl ?_
  exact hk23 _ _ h
set_option maxRecDepth 20000 in
theorem w_Mo_alikeNow_150 {X : HX} {ad : Nat → Nat} {I : HI} {J : HJ} {N : HN} {r : Int32} {k23 : Int32 → Int32 → Option (Int32)} {a0 : Nat} {x2 : Int32} (C : Cx X c_Mo_alikeNow RX11 8 (some .int) rm_Mo_alikeNow) (ha0 : gk Tm nM a0 (0, 11))
    (hk23 : ∀ (x1 : Int32) (x2 : Int32), k23 x1 x2 = some r → G Tm X ad nM 0 0 I J N (gE X Tm ad nM (I, J, N, fun _ => some (.int r))) 23 8 [(0, .ref (ad a0)), (1, .int x1), (2, .int x2)] [])
    (h : Mo_alikeNow_150 I J N a0 k23 x2 = some r) : G Tm X ad nM 0 0 I J N (gE X Tm ad nM (I, J, N, fun _ => some (.int r))) 150 8 [(0, .ref (ad a0)), (2, .int x2)] [] := by
  refine g_iconst (pc := 150) C (0 : Int32) d_Mo_alikeNow_150 (by decide) ?_
  refine g_lv [0, 1] rfl ?_
  exact w_Mo_alikeNow_151 C ha0 hk23 h
set_option maxRecDepth 20000 in
theorem w_Mo_alikeNow_126 {X : HX} {ad : Nat → Nat} {I : HI} {J : HJ} {N : HN} {r : Int32} {k23 : Int32 → Int32 → Option (Int32)} {k37 : Int32 → Int32 → Int64 → Int64 → Int32 → Option (Int32)} {a0 : Nat} {x1 : Int32} {x2 : Int32} {x3 : Int64} {x7 : Int32} {s0 : Int64} {s1 : Int64} (C : Cx X c_Mo_alikeNow RX11 8 (some .int) rm_Mo_alikeNow) (ha0 : gk Tm nM a0 (0, 11))
    (hk23 : ∀ (x1 : Int32) (x2 : Int32), k23 x1 x2 = some r → G Tm X ad nM 0 0 I J N (gE X Tm ad nM (I, J, N, fun _ => some (.int r))) 23 8 [(0, .ref (ad a0)), (1, .int x1), (2, .int x2)] [])
    (hk37 : ∀ (x1 : Int32) (x2 : Int32) (x3 : Int64) (x5 : Int64) (x7 : Int32), k37 x1 x2 x3 x5 x7 = some r → G Tm X ad nM 0 0 I J N (gE X Tm ad nM (I, J, N, fun _ => some (.int r))) 37 8 [(0, .ref (ad a0)), (1, .int x1), (2, .int x2), (3, .long x3), (5, .long x5), (7, .int x7)] [])
    (h : Mo_alikeNow_126 I J N a0 k23 k37 x1 x2 x3 x7 s0 s1 = some r) : G Tm X ad nM 0 0 I J N (gE X Tm ad nM (I, J, N, fun _ => some (.int r))) 126 8 [(0, .ref (ad a0)), (1, .int x1), (2, .int x2), (3, .long x3), (7, .int x7)] [.long s1, .long s0] := by
  refine g_ladd (pc := 126) C d_Mo_alikeNow_126 ?_
  obtain ⟨v1, ev1, h⟩ := o_bd h
  refine g_topl ev1 ?_
  refine g_lstore (pc := 127) (lv' := [(5, .long v1), (0, .ref (ad a0)), (1, .int x1), (2, .int x2), (3, .long x3), (7, .int x7)]) C d_Mo_alikeNow_127 (by decide) rfl ?_
  refine g_iinc (pc := 129) (q := 5) (lv' := [(7, .int (x7 + 1)), (5, .long v1), (0, .ref (ad a0)), (1, .int x1), (2, .int x2), (3, .long x3)]) C d_Mo_alikeNow_129 rfl rfl (by decide) rfl ?_
  refine g_goto (pc := 132) C 37 d_Mo_alikeNow_132 rfl ?_
  refine g_lv [2, 3, 4, 5, 1, 0] rfl ?_
  exact hk37 _ _ _ _ _ h
set_option maxRecDepth 20000 in
theorem w_Mo_alikeNow_85 {X : HX} {ad : Nat → Nat} {I : HI} {J : HJ} {N : HN} {r : Int32} {k23 : Int32 → Int32 → Option (Int32)} {k37 : Int32 → Int32 → Int64 → Int64 → Int32 → Option (Int32)} {a0 : Nat} {x1 : Int32} {x2 : Int32} {x5 : Int64} {x7 : Int32} {s0 : Int64} {s1 : Int64} (C : Cx X c_Mo_alikeNow RX11 8 (some .int) rm_Mo_alikeNow) (ha0 : gk Tm nM a0 (0, 11))
    (hk23 : ∀ (x1 : Int32) (x2 : Int32), k23 x1 x2 = some r → G Tm X ad nM 0 0 I J N (gE X Tm ad nM (I, J, N, fun _ => some (.int r))) 23 8 [(0, .ref (ad a0)), (1, .int x1), (2, .int x2)] [])
    (hk37 : ∀ (x1 : Int32) (x2 : Int32) (x3 : Int64) (x5 : Int64) (x7 : Int32), k37 x1 x2 x3 x5 x7 = some r → G Tm X ad nM 0 0 I J N (gE X Tm ad nM (I, J, N, fun _ => some (.int r))) 37 8 [(0, .ref (ad a0)), (1, .int x1), (2, .int x2), (3, .long x3), (5, .long x5), (7, .int x7)] [])
    (h : Mo_alikeNow_85 I J N a0 k23 k37 x1 x2 x5 x7 s0 s1 = some r) : G Tm X ad nM 0 0 I J N (gE X Tm ad nM (I, J, N, fun _ => some (.int r))) 85 8 [(0, .ref (ad a0)), (1, .int x1), (2, .int x2), (5, .long x5), (7, .int x7)] [.long s1, .long s0] := by
  refine g_ladd (pc := 85) C d_Mo_alikeNow_85 ?_
  obtain ⟨v1, ev1, h⟩ := o_bd h
  refine g_topl ev1 ?_
  refine g_lstore_n (pc := 86) (lv' := [(3, .long v1), (0, .ref (ad a0)), (1, .int x1), (2, .int x2), (5, .long x5), (7, .int x7)]) C d_Mo_alikeNow_86 rfl (by decide) rfl ?_
  refine g_lload (pc := 87) C d_Mo_alikeNow_87 4 rfl ?_
  refine g_iload_n (pc := 89) C d_Mo_alikeNow_89 rfl 3 rfl ?_
  refine g_iload (pc := 90) C d_Mo_alikeNow_90 5 rfl ?_
  refine g_isub (pc := 92) C d_Mo_alikeNow_92 ?_
  refine g_i2l (pc := 93) C d_Mo_alikeNow_93 ?_
  refine g_lconst (pc := 94) C (0 : Int64) d_Mo_alikeNow_94 (by decide) ?_
  refine g_ldc2 (pc := 95) C kc_Mo_292 d_Mo_alikeNow_95 ?_
  obtain ⟨r2, hc3, h⟩ := o_bn1 h
  refine g_S (pc := 98) (rest := [.long x5]) C (k_Mo_in (xl X)  hc3) sm_Mo_in ml_Mo_83 st_Mo_in ⟨rfl, rfl, Nat.le_of_ble_eq_true rfl, Nat.le_of_ble_eq_true rfl⟩ ⟨Nat.zero_le _, Nat.zero_le _⟩ rfl rfl (Nat.le_of_ble_eq_true rfl) d_Mo_alikeNow_98 [.int r2, .long x5] rfl ?_
  refine g_if_eq (pc := 101) C 125 d_Mo_alikeNow_101 rfl (fun e4 => ?_) (fun e4 => ?_)
  · have h := o_pos e4 h
    refine g_lconst (pc := 125) C (0 : Int64) d_Mo_alikeNow_125 (by decide) ?_
    refine g_lv [1, 2, 3, 0, 5] rfl ?_
    exact w_Mo_alikeNow_126 C ha0 hk23 hk37 h
  · have h := o_neg e4 h
    refine g_aload_n (pc := 104) C d_Mo_alikeNow_104 rfl 1 rfl ?_
    obtain ⟨b5, hnb5, hb5, h⟩ := o_ra h
    refine g_get (pc := 105) (k := 4) (v := va_rf ((N a0 4).map ad)) C gcX11 inX11 (by decide) fl_Mo_20 ha0 rfl d_Mo_alikeNow_105 ?_
    refine g_top (g_rf hnb5) ?_
    refine g_iload (pc := 108) C d_Mo_alikeNow_108 5 rfl ?_
    obtain ⟨hi6, h⟩ := o_gd h
    refine g_iald (pc := 110) C hb5 hi6 d_Mo_alikeNow_110 ?_
    refine g_i2l (pc := 111) C d_Mo_alikeNow_111 ?_
    refine g_aload_n (pc := 112) C d_Mo_alikeNow_112 rfl 1 rfl ?_
    obtain ⟨b7, hnb7, hb7, h⟩ := o_ra h
    refine g_get (pc := 113) (k := 24) (v := va_rf ((N a0 24).map ad)) C gcX11 inX11 (by decide) fl_Mo_59 ha0 rfl d_Mo_alikeNow_113 ?_
    refine g_top (g_rf hnb7) ?_
    refine g_iload_n (pc := 116) C d_Mo_alikeNow_116 rfl 3 rfl ?_
    refine g_iload (pc := 117) C d_Mo_alikeNow_117 5 rfl ?_
    refine g_isub (pc := 119) C d_Mo_alikeNow_119 ?_
    obtain ⟨hi8, h⟩ := o_gd h
    refine g_lald (pc := 120) C hb7 hi8 d_Mo_alikeNow_120 ?_
    refine g_lmul (pc := 121) C d_Mo_alikeNow_121 ?_
    refine g_goto (pc := 122) C 126 d_Mo_alikeNow_122 rfl ?_
    refine g_lv [1, 2, 3, 0, 5] rfl ?_
    exact w_Mo_alikeNow_126 C ha0 hk23 hk37 h
set_option maxRecDepth 20000 in
theorem w_Mo_alikeNow_37b {X : HX} {ad : Nat → Nat} {I : HI} {J : HJ} {N : HN} {r : Int32} {k23 : Int32 → Int32 → Option (Int32)} {k37 : Int32 → Int32 → Int64 → Int64 → Int32 → Option (Int32)} {a0 : Nat} {x1 : Int32} {x2 : Int32} {x3 : Int64} {x5 : Int64} {x7 : Int32} (C : Cx X c_Mo_alikeNow RX11 8 (some .int) rm_Mo_alikeNow) (ha0 : gk Tm nM a0 (0, 11))
    (hk23 : ∀ (x1 : Int32) (x2 : Int32), k23 x1 x2 = some r → G Tm X ad nM 0 0 I J N (gE X Tm ad nM (I, J, N, fun _ => some (.int r))) 23 8 [(0, .ref (ad a0)), (1, .int x1), (2, .int x2)] [])
    (hk37 : ∀ (x1 : Int32) (x2 : Int32) (x3 : Int64) (x5 : Int64) (x7 : Int32), k37 x1 x2 x3 x5 x7 = some r → G Tm X ad nM 0 0 I J N (gE X Tm ad nM (I, J, N, fun _ => some (.int r))) 37 8 [(0, .ref (ad a0)), (1, .int x1), (2, .int x2), (3, .long x3), (5, .long x5), (7, .int x7)] [])
    (h : Mo_alikeNow_37b I J N a0 k23 k37 x1 x2 x3 x5 x7 = some r) : G Tm X ad nM 0 0 I J N (gE X Tm ad nM (I, J, N, fun _ => some (.int r))) 37 8 [(0, .ref (ad a0)), (1, .int x1), (2, .int x2), (3, .long x3), (5, .long x5), (7, .int x7)] [] := by
  refine g_iload (pc := 37) C d_Mo_alikeNow_37 5 rfl ?_
  refine g_bipush (pc := 39) C (7 : Int32) d_Mo_alikeNow_39 (by decide) ?_
  refine g_icmp_ge (pc := 41) C 135 d_Mo_alikeNow_41 rfl (fun e1 => ?_) (fun e1 => ?_)
  · have h := o_pos e1 h
    refine g_iload_n (pc := 135) C d_Mo_alikeNow_135 rfl 1 rfl ?_
    refine g_if_eq (pc := 136) C 150 d_Mo_alikeNow_136 rfl (fun e2 => ?_) (fun e2 => ?_)
    · have h := o_pos e2 h
      refine g_lv [0, 2] rfl ?_
      exact w_Mo_alikeNow_150 C ha0 hk23 h
    · have h := o_neg e2 h
      refine g_lload_n (pc := 139) C d_Mo_alikeNow_139 rfl 3 rfl ?_
      refine g_lload (pc := 140) C d_Mo_alikeNow_140 4 rfl ?_
      refine g_lcmp_ne (pc := 142) C 150 d_Mo_alikeNow_142 d_Mo_alikeNow_143 rfl (fun e3 => ?_) (fun e3 => ?_)
      · have h := o_neg e3 h
        refine g_lv [0, 2] rfl ?_
        exact w_Mo_alikeNow_150 C ha0 hk23 h
      · have h := o_pos e3 h
        refine g_iconst (pc := 146) C (1 : Int32) d_Mo_alikeNow_146 (by decide) ?_
        refine g_goto (pc := 147) C 151 d_Mo_alikeNow_147 rfl ?_
        refine g_lv [0, 2] rfl ?_
        exact w_Mo_alikeNow_151 C ha0 hk23 h
  · have h := o_neg e1 h
    refine g_lload_n (pc := 44) C d_Mo_alikeNow_44 rfl 3 rfl ?_
    refine g_iload_n (pc := 45) C d_Mo_alikeNow_45 rfl 2 rfl ?_
    refine g_iload (pc := 46) C d_Mo_alikeNow_46 5 rfl ?_
    refine g_isub (pc := 48) C d_Mo_alikeNow_48 ?_
    refine g_i2l (pc := 49) C d_Mo_alikeNow_49 ?_
    refine g_lconst (pc := 50) C (0 : Int64) d_Mo_alikeNow_50 (by decide) ?_
    refine g_ldc2 (pc := 51) C kc_Mo_292 d_Mo_alikeNow_51 ?_
    obtain ⟨r4, hc5, h⟩ := o_bn1 h
    refine g_S (pc := 54) (rest := [.long x3]) C (k_Mo_in (xl X)  hc5) sm_Mo_in ml_Mo_83 st_Mo_in ⟨rfl, rfl, Nat.le_of_ble_eq_true rfl, Nat.le_of_ble_eq_true rfl⟩ ⟨Nat.zero_le _, Nat.zero_le _⟩ rfl rfl (Nat.le_of_ble_eq_true rfl) d_Mo_alikeNow_54 [.int r4, .long x3] rfl ?_
    refine g_if_eq (pc := 57) C 84 d_Mo_alikeNow_57 rfl (fun e6 => ?_) (fun e6 => ?_)
    · have h := o_pos e6 h
      refine g_lconst (pc := 84) C (0 : Int64) d_Mo_alikeNow_84 (by decide) ?_
      refine g_lv [0, 1, 2, 4, 5] rfl ?_
      exact w_Mo_alikeNow_85 C ha0 hk23 hk37 h
    · have h := o_neg e6 h
      refine g_aload_n (pc := 60) C d_Mo_alikeNow_60 rfl 0 rfl ?_
      obtain ⟨b7, hnb7, hb7, h⟩ := o_ra h
      refine g_get (pc := 61) (k := 4) (v := va_rf ((N a0 4).map ad)) C gcX11 inX11 (by decide) fl_Mo_20 ha0 rfl d_Mo_alikeNow_61 ?_
      refine g_top (g_rf hnb7) ?_
      refine g_bipush (pc := 64) C (7 : Int32) d_Mo_alikeNow_64 (by decide) ?_
      refine g_iload (pc := 66) C d_Mo_alikeNow_66 5 rfl ?_
      refine g_iadd (pc := 68) C d_Mo_alikeNow_68 ?_
      obtain ⟨hi8, h⟩ := o_gd h
      refine g_iald (pc := 69) C hb7 hi8 d_Mo_alikeNow_69 ?_
      refine g_i2l (pc := 70) C d_Mo_alikeNow_70 ?_
      refine g_aload_n (pc := 71) C d_Mo_alikeNow_71 rfl 0 rfl ?_
      obtain ⟨b9, hnb9, hb9, h⟩ := o_ra h
      refine g_get (pc := 72) (k := 23) (v := va_rf ((N a0 23).map ad)) C gcX11 inX11 (by decide) fl_Mo_56 ha0 rfl d_Mo_alikeNow_72 ?_
      refine g_top (g_rf hnb9) ?_
      refine g_iload_n (pc := 75) C d_Mo_alikeNow_75 rfl 2 rfl ?_
      refine g_iload (pc := 76) C d_Mo_alikeNow_76 5 rfl ?_
      refine g_isub (pc := 78) C d_Mo_alikeNow_78 ?_
      obtain ⟨hi10, h⟩ := o_gd h
      refine g_lald (pc := 79) C hb9 hi10 d_Mo_alikeNow_79 ?_
      refine g_lmul (pc := 80) C d_Mo_alikeNow_80 ?_
      refine g_goto (pc := 81) C 85 d_Mo_alikeNow_81 rfl ?_
      refine g_lv [0, 1, 2, 4, 5] rfl ?_
      exact w_Mo_alikeNow_85 C ha0 hk23 hk37 h
set_option maxRecDepth 20000 in
theorem w_Mo_alikeNow_37 {X : HX} {ad : Nat → Nat} {I : HI} {J : HJ} {N : HN} {r : Int32} {k23 : Int32 → Int32 → Option (Int32)} {a0 : Nat} (C : Cx X c_Mo_alikeNow RX11 8 (some .int) rm_Mo_alikeNow) (ha0 : gk Tm nM a0 (0, 11))
    (hk23 : ∀ (x1 : Int32) (x2 : Int32), k23 x1 x2 = some r → G Tm X ad nM 0 0 I J N (gE X Tm ad nM (I, J, N, fun _ => some (.int r))) 23 8 [(0, .ref (ad a0)), (1, .int x1), (2, .int x2)] []) : ∀ (n : Nat) (x1 : Int32) (x2 : Int32) (x3 : Int64) (x5 : Int64) (x7 : Int32), Mo_alikeNow_37 I J N a0 k23 n x1 x2 x3 x5 x7 = some r → G Tm X ad nM 0 0 I J N (gE X Tm ad nM (I, J, N, fun _ => some (.int r))) 37 8 [(0, .ref (ad a0)), (1, .int x1), (2, .int x2), (3, .long x3), (5, .long x5), (7, .int x7)] [] := by
  intro n
  induction n with
  | zero => intro x1 x2 x3 x5 x7 h; cases h
  | succ n ih => intro x1 x2 x3 x5 x7 h; exact w_Mo_alikeNow_37b C ha0 hk23 ih h
set_option maxRecDepth 20000 in
theorem w_Mo_alikeNow_23b {X : HX} {ad : Nat → Nat} {I : HI} {J : HJ} {N : HN} {r : Int32} {k23 : Int32 → Int32 → Option (Int32)} {a0 : Nat} {x1 : Int32} {x2 : Int32} (C : Cx X c_Mo_alikeNow RX11 8 (some .int) rm_Mo_alikeNow) (ha0 : gk Tm nM a0 (0, 11))
    (hk23 : ∀ (x1 : Int32) (x2 : Int32), k23 x1 x2 = some r → G Tm X ad nM 0 0 I J N (gE X Tm ad nM (I, J, N, fun _ => some (.int r))) 23 8 [(0, .ref (ad a0)), (1, .int x1), (2, .int x2)] [])
    (h : Mo_alikeNow_23b I J N a0 k23 x1 x2 = some r) : G Tm X ad nM 0 0 I J N (gE X Tm ad nM (I, J, N, fun _ => some (.int r))) 23 8 [(0, .ref (ad a0)), (1, .int x1), (2, .int x2)] [] := by
  refine g_iload_n (pc := 23) C d_Mo_alikeNow_23 rfl 2 rfl ?_
  refine g_bipush (pc := 24) C (20 : Int32) d_Mo_alikeNow_24 (by decide) ?_
  refine g_icmp_ge (pc := 26) C 158 d_Mo_alikeNow_26 rfl (fun e1 => ?_) (fun e1 => ?_)
  · have h := o_pos e1 h
    refine g_iload_n (pc := 158) C d_Mo_alikeNow_158 rfl 1 rfl ?_
    refine g_if_eq (pc := 159) C 166 d_Mo_alikeNow_159 rfl (fun e2 => ?_) (fun e2 => ?_)
    · have h := o_pos e2 h
      refine g_iconst (pc := 166) C (0 : Int32) d_Mo_alikeNow_166 (by decide) ?_
      obtain rfl := o_ret h
      exact g_iret (pc := 167) C d_Mo_alikeNow_167
    · have h := o_neg e2 h
      refine g_iconst (pc := 162) C (1 : Int32) d_Mo_alikeNow_162 (by decide) ?_
      refine g_goto (pc := 163) C 167 d_Mo_alikeNow_163 rfl ?_
      obtain rfl := o_ret h
      exact g_iret (pc := 167) C d_Mo_alikeNow_167
  · have h := o_neg e1 h
    refine g_lconst (pc := 29) C (0 : Int64) d_Mo_alikeNow_29 (by decide) ?_
    refine g_lstore_n (pc := 30) (lv' := [(3, .long (0 : Int64)), (0, .ref (ad a0)), (1, .int x1), (2, .int x2)]) C d_Mo_alikeNow_30 rfl (by decide) rfl ?_
    refine g_lconst (pc := 31) C (0 : Int64) d_Mo_alikeNow_31 (by decide) ?_
    refine g_lstore (pc := 32) (lv' := [(5, .long (0 : Int64)), (3, .long (0 : Int64)), (0, .ref (ad a0)), (1, .int x1), (2, .int x2)]) C d_Mo_alikeNow_32 (by decide) rfl ?_
    refine g_iconst (pc := 34) C (0 : Int32) d_Mo_alikeNow_34 (by decide) ?_
    refine g_istore (pc := 35) (lv' := [(7, .int (0 : Int32)), (5, .long (0 : Int64)), (3, .long (0 : Int64)), (0, .ref (ad a0)), (1, .int x1), (2, .int x2)]) C d_Mo_alikeNow_35 (by decide) rfl ?_
    refine g_lv [3, 4, 5, 2, 1, 0] rfl ?_
    exact w_Mo_alikeNow_37 C ha0 hk23 _ _ _ _ _ _ h
set_option maxRecDepth 20000 in
theorem w_Mo_alikeNow_23 {X : HX} {ad : Nat → Nat} {I : HI} {J : HJ} {N : HN} {r : Int32} {a0 : Nat} (C : Cx X c_Mo_alikeNow RX11 8 (some .int) rm_Mo_alikeNow) (ha0 : gk Tm nM a0 (0, 11)) : ∀ (n : Nat) (x1 : Int32) (x2 : Int32), Mo_alikeNow_23 I J N a0 n x1 x2 = some r → G Tm X ad nM 0 0 I J N (gE X Tm ad nM (I, J, N, fun _ => some (.int r))) 23 8 [(0, .ref (ad a0)), (1, .int x1), (2, .int x2)] [] := by
  intro n
  induction n with
  | zero => intro x1 x2 h; cases h
  | succ n ih => intro x1 x2 h; exact w_Mo_alikeNow_23b C ha0 ih h
set_option maxRecDepth 20000 in
theorem w_Mo_alikeNow_0 {X : HX} {ad : Nat → Nat} {I : HI} {J : HJ} {N : HN} {r : Int32} {a0 : Nat} (C : Cx X c_Mo_alikeNow RX11 8 (some .int) rm_Mo_alikeNow) (ha0 : gk Tm nM a0 (0, 11))
    (h : Mo_alikeNow_0 I J N a0 = some r) : G Tm X ad nM 0 0 I J N (gE X Tm ad nM (I, J, N, fun _ => some (.int r))) 0 8 [(0, .ref (ad a0))] [] := by
  refine g_aload_n (pc := 0) C d_Mo_alikeNow_0 rfl 0 rfl ?_
  refine g_get (pc := 1) (k := 6) (v := .int (I a0 6)) C gcX11 inX11 (by decide) fl_Mo_159 ha0 rfl d_Mo_alikeNow_1 ?_
  refine g_if_eq (pc := 4) C 16 d_Mo_alikeNow_4 rfl (fun e1 => ?_) (fun e1 => ?_)
  · have h := o_pos e1 h
    refine g_bipush (pc := 16) C (-3 : Int32) d_Mo_alikeNow_16 (by decide) ?_
    obtain rfl := o_ret h
    exact g_iret (pc := 18) C d_Mo_alikeNow_18
  · have h := o_neg e1 h
    refine g_aload_n (pc := 7) C d_Mo_alikeNow_7 rfl 0 rfl ?_
    refine g_iconst (pc := 8) C (1 : Int32) d_Mo_alikeNow_8 (by decide) ?_
    obtain ⟨r2, hc3, h⟩ := o_bn1 h
    refine g_V (pc := 9) (rest := []) C (k_Mo_degree (xl X) ha0 hc3) sm_Mo_degree ml_Mo_128 im_Mo_degree se_Mo_degree gcX11 rfl ha0 ⟨rfl, rfl, Nat.le_of_ble_eq_true rfl, Nat.le_of_ble_eq_true rfl⟩ ⟨Nat.zero_le _, Nat.zero_le _⟩ rfl rfl (Nat.le_of_ble_eq_true rfl) d_Mo_alikeNow_9 [.int r2] rfl ?_
    refine g_iconst (pc := 12) C (-1 : Int32) d_Mo_alikeNow_12 (by decide) ?_
    refine g_icmp_ne (pc := 13) C 19 d_Mo_alikeNow_13 rfl (fun e4 => ?_) (fun e4 => ?_)
    · have h := o_neg e4 h
      refine g_iconst (pc := 19) C (1 : Int32) d_Mo_alikeNow_19 (by decide) ?_
      refine g_istore_n (pc := 20) (lv' := [(1, .int (1 : Int32)), (0, .ref (ad a0))]) C d_Mo_alikeNow_20 rfl (by decide) rfl ?_
      refine g_iconst (pc := 21) C (0 : Int32) d_Mo_alikeNow_21 (by decide) ?_
      refine g_istore_n (pc := 22) (lv' := [(2, .int (0 : Int32)), (1, .int (1 : Int32)), (0, .ref (ad a0))]) C d_Mo_alikeNow_22 rfl (by decide) rfl ?_
      refine g_lv [2, 1, 0] rfl ?_
      exact w_Mo_alikeNow_23 C ha0 _ _ _ h
    · have h := o_pos e4 h
      refine g_bipush (pc := 16) C (-3 : Int32) d_Mo_alikeNow_16 (by decide) ?_
      obtain rfl := o_ret h
      exact g_iret (pc := 18) C d_Mo_alikeNow_18
set_option maxRecDepth 20000 in
theorem k_Mo_alikeNow (l : Launch) {I : HI} {J : HJ} {N : HN} {a0 : Nat} {r : Int32} (ha0 : gk Tm nM a0 (0, 11)) (h : Mo_alikeNow I J N a0 = some r) : gM l y_Mo_alikeNow c_Mo_alikeNow 8 (some .int) rm_Mo_alikeNow Tm nM I J N (fun ad => [.ref (ad a0)]) (I, J, N, fun _ => some (.int r)) :=
  g_meth (lv := fun ad => [(0, .ref (ad a0))]) (by decide) (fun _ => Nat.le_of_ble_eq_true rfl) (fun _ => rfl) (fun X ad C => g_lv [0] rfl (w_Mo_alikeNow_0 C ha0 h))
theorem d_Mo_alike_0 : decode c_Mo_alike 0 = .ok (.aload_n 0, 1) := by decide +kernel
theorem d_Mo_alike_1 : decode c_Mo_alike 1 = .ok (.invokevirtual 285, 3) := by decide +kernel
theorem d_Mo_alike_4 : decode c_Mo_alike 4 = .ok (.aload_n 0, 1) := by decide +kernel
theorem d_Mo_alike_5 : decode c_Mo_alike 5 = .ok (.invokevirtual 294, 3) := by decide +kernel
theorem d_Mo_alike_8 : decode c_Mo_alike 8 = .ok (.ireturn, 1) := by decide +kernel
set_option maxRecDepth 20000 in
theorem w_Mo_alike_0 {X : HX} {ad : Nat → Nat} {I : HI} {J : HJ} {N : HN} {r : HJ × Int32} {a0 : Nat} (C : Cx X c_Mo_alike RX11 1 (some .int) rm_Mo_alike) (ha0 : gk Tm nM a0 (0, 11))
    (h : Mo_alike_0 I N a0 J = some r) : G Tm X ad nM 0 0 I J N (gE X Tm ad nM (I, r.1, N, fun _ => some (.int r.2))) 0 1 [(0, .ref (ad a0))] [] := by
  refine g_aload_n (pc := 0) C d_Mo_alike_0 rfl 0 rfl ?_
  obtain ⟨J1, hc2, h⟩ := o_bn1 h
  refine g_V (pc := 1) (rest := []) C (k_Mo_folds (xl X) ha0 hc2) sm_Mo_folds ml_Mo_285 im_Mo_folds se_Mo_folds gcX11 rfl ha0 ⟨rfl, rfl, Nat.le_of_ble_eq_true rfl, Nat.le_of_ble_eq_true rfl⟩ ⟨Nat.zero_le _, Nat.zero_le _⟩ rfl rfl (Nat.le_of_ble_eq_true rfl) d_Mo_alike_1 [] rfl ?_
  refine g_aload_n (pc := 4) C d_Mo_alike_4 rfl 0 rfl ?_
  obtain ⟨r3, hc4, h⟩ := o_bn1 h
  refine g_V (pc := 5) (rest := []) C (k_Mo_alikeNow (xl X) ha0 hc4) sm_Mo_alikeNow ml_Mo_294 im_Mo_alikeNow se_Mo_alikeNow gcX11 rfl ha0 ⟨rfl, rfl, Nat.le_of_ble_eq_true rfl, Nat.le_of_ble_eq_true rfl⟩ ⟨Nat.zero_le _, Nat.zero_le _⟩ rfl rfl (Nat.le_of_ble_eq_true rfl) d_Mo_alike_5 [.int r3] rfl ?_
  obtain rfl := o_ret h
  exact g_iret (pc := 8) C d_Mo_alike_8
set_option maxRecDepth 20000 in
theorem k_Mo_alike (l : Launch) {I : HI} {J : HJ} {N : HN} {a0 : Nat} {r : HJ × Int32} (ha0 : gk Tm nM a0 (0, 11)) (h : Mo_alike I N a0 J = some r) : gM l y_Mo_alike c_Mo_alike 1 (some .int) rm_Mo_alike Tm nM I J N (fun ad => [.ref (ad a0)]) (I, r.1, N, fun _ => some (.int r.2)) :=
  g_meth (lv := fun ad => [(0, .ref (ad a0))]) (by decide) (fun _ => Nat.le_of_ble_eq_true rfl) (fun _ => rfl) (fun X ad C => g_lv [0] rfl (w_Mo_alike_0 C ha0 h))
theorem d_Mo_take_0 : decode c_Mo_take 0 = .ok (.aload_n 0, 1) := by decide +kernel
theorem d_Mo_take_1 : decode c_Mo_take 1 = .ok (.getfield 159, 3) := by decide +kernel
theorem d_Mo_take_4 : decode c_Mo_take 4 = .ok (.ifCond .ne 6, 3) := by decide +kernel
theorem d_Mo_take_7 : decode c_Mo_take 7 = .ok (.bipush (-3), 2) := by decide +kernel
theorem d_Mo_take_9 : decode c_Mo_take 9 = .ok (.ireturn, 1) := by decide +kernel
theorem d_Mo_take_10 : decode c_Mo_take 10 = .ok (.aload_n 0, 1) := by decide +kernel
theorem d_Mo_take_11 : decode c_Mo_take 11 = .ok (.invokevirtual 285, 3) := by decide +kernel
theorem d_Mo_take_14 : decode c_Mo_take 14 = .ok (.iconst 0, 1) := by decide +kernel
theorem d_Mo_take_15 : decode c_Mo_take 15 = .ok (.istore_n 1, 1) := by decide +kernel
theorem d_Mo_take_16 : decode c_Mo_take 16 = .ok (.iload_n 1, 1) := by decide +kernel
theorem d_Mo_take_17 : decode c_Mo_take 17 = .ok (.bipush 7, 2) := by decide +kernel
theorem d_Mo_take_19 : decode c_Mo_take 19 = .ok (.if_icmp .ge 48, 3) := by decide +kernel
theorem d_Mo_take_22 : decode c_Mo_take 22 = .ok (.aload_n 0, 1) := by decide +kernel
theorem d_Mo_take_23 : decode c_Mo_take 23 = .ok (.getfield 56, 3) := by decide +kernel
theorem d_Mo_take_26 : decode c_Mo_take 26 = .ok (.iload_n 1, 1) := by decide +kernel
theorem d_Mo_take_27 : decode c_Mo_take 27 = .ok (.laload, 1) := by decide +kernel
theorem d_Mo_take_28 : decode c_Mo_take 28 = .ok (.ldc2_w 116, 3) := by decide +kernel
theorem d_Mo_take_31 : decode c_Mo_take 31 = .ok (.ldc2_w 118, 3) := by decide +kernel
theorem d_Mo_take_34 : decode c_Mo_take 34 = .ok (.invokestatic 83, 3) := by decide +kernel
theorem d_Mo_take_37 : decode c_Mo_take 37 = .ok (.ifCond .eq 21, 3) := by decide +kernel
theorem d_Mo_take_40 : decode c_Mo_take 40 = .ok (.aload_n 0, 1) := by decide +kernel
theorem d_Mo_take_41 : decode c_Mo_take 41 = .ok (.getfield 59, 3) := by decide +kernel
theorem d_Mo_take_44 : decode c_Mo_take 44 = .ok (.iload_n 1, 1) := by decide +kernel
theorem d_Mo_take_45 : decode c_Mo_take 45 = .ok (.laload, 1) := by decide +kernel
theorem d_Mo_take_46 : decode c_Mo_take 46 = .ok (.ldc2_w 116, 3) := by decide +kernel
theorem d_Mo_take_49 : decode c_Mo_take 49 = .ok (.ldc2_w 118, 3) := by decide +kernel
theorem d_Mo_take_52 : decode c_Mo_take 52 = .ok (.invokestatic 83, 3) := by decide +kernel
theorem d_Mo_take_55 : decode c_Mo_take 55 = .ok (.ifCond .ne 6, 3) := by decide +kernel
theorem d_Mo_take_58 : decode c_Mo_take 58 = .ok (.bipush (-5), 2) := by decide +kernel
theorem d_Mo_take_60 : decode c_Mo_take 60 = .ok (.ireturn, 1) := by decide +kernel
theorem d_Mo_take_61 : decode c_Mo_take 61 = .ok (.iinc 1 1, 3) := by decide +kernel
theorem d_Mo_take_64 : decode c_Mo_take 64 = .ok (.goto (-48), 3) := by decide +kernel
theorem d_Mo_take_67 : decode c_Mo_take 67 = .ok (.iconst 0, 1) := by decide +kernel
theorem d_Mo_take_68 : decode c_Mo_take 68 = .ok (.istore_n 1, 1) := by decide +kernel
theorem d_Mo_take_69 : decode c_Mo_take 69 = .ok (.iload_n 1, 1) := by decide +kernel
theorem d_Mo_take_70 : decode c_Mo_take 70 = .ok (.bipush 7, 2) := by decide +kernel
theorem d_Mo_take_72 : decode c_Mo_take 72 = .ok (.if_icmp .ge 38, 3) := by decide +kernel
theorem d_Mo_take_75 : decode c_Mo_take 75 = .ok (.aload_n 0, 1) := by decide +kernel
theorem d_Mo_take_76 : decode c_Mo_take 76 = .ok (.getfield 20, 3) := by decide +kernel
theorem d_Mo_take_79 : decode c_Mo_take 79 = .ok (.iload_n 1, 1) := by decide +kernel
theorem d_Mo_take_80 : decode c_Mo_take 80 = .ok (.aload_n 0, 1) := by decide +kernel
theorem d_Mo_take_81 : decode c_Mo_take 81 = .ok (.getfield 56, 3) := by decide +kernel
theorem d_Mo_take_84 : decode c_Mo_take 84 = .ok (.iload_n 1, 1) := by decide +kernel
theorem d_Mo_take_85 : decode c_Mo_take 85 = .ok (.laload, 1) := by decide +kernel
theorem d_Mo_take_86 : decode c_Mo_take 86 = .ok (.l2i, 1) := by decide +kernel
theorem d_Mo_take_87 : decode c_Mo_take 87 = .ok (.iastore, 1) := by decide +kernel
theorem d_Mo_take_88 : decode c_Mo_take 88 = .ok (.aload_n 0, 1) := by decide +kernel
theorem d_Mo_take_89 : decode c_Mo_take 89 = .ok (.getfield 20, 3) := by decide +kernel
theorem d_Mo_take_92 : decode c_Mo_take 92 = .ok (.bipush 7, 2) := by decide +kernel
theorem d_Mo_take_94 : decode c_Mo_take 94 = .ok (.iload_n 1, 1) := by decide +kernel
theorem d_Mo_take_95 : decode c_Mo_take 95 = .ok (.iadd, 1) := by decide +kernel
theorem d_Mo_take_96 : decode c_Mo_take 96 = .ok (.aload_n 0, 1) := by decide +kernel
theorem d_Mo_take_97 : decode c_Mo_take 97 = .ok (.getfield 59, 3) := by decide +kernel
theorem d_Mo_take_100 : decode c_Mo_take 100 = .ok (.iload_n 1, 1) := by decide +kernel
theorem d_Mo_take_101 : decode c_Mo_take 101 = .ok (.laload, 1) := by decide +kernel
theorem d_Mo_take_102 : decode c_Mo_take 102 = .ok (.l2i, 1) := by decide +kernel
theorem d_Mo_take_103 : decode c_Mo_take 103 = .ok (.iastore, 1) := by decide +kernel
theorem d_Mo_take_104 : decode c_Mo_take 104 = .ok (.iinc 1 1, 3) := by decide +kernel
theorem d_Mo_take_107 : decode c_Mo_take 107 = .ok (.goto (-38), 3) := by decide +kernel
theorem d_Mo_take_110 : decode c_Mo_take 110 = .ok (.aload_n 0, 1) := by decide +kernel
theorem d_Mo_take_111 : decode c_Mo_take 111 = .ok (.iconst 0, 1) := by decide +kernel
theorem d_Mo_take_112 : decode c_Mo_take 112 = .ok (.invokevirtual 128, 3) := by decide +kernel
theorem d_Mo_take_115 : decode c_Mo_take 115 = .ok (.aload_n 0, 1) := by decide +kernel
theorem d_Mo_take_116 : decode c_Mo_take 116 = .ok (.iconst 1, 1) := by decide +kernel
theorem d_Mo_take_117 : decode c_Mo_take 117 = .ok (.invokevirtual 128, 3) := by decide +kernel
theorem d_Mo_take_120 : decode c_Mo_take 120 = .ok (.invokestatic 131, 3) := by decide +kernel
theorem d_Mo_take_123 : decode c_Mo_take 123 = .ok (.ireturn, 1) := by decide +kernel
set_option maxRecDepth 20000 in
theorem w_Mo_take_69b {X : HX} {ad : Nat → Nat} {I : HI} {J : HJ} {N : HN} {r : HI × HJ × Int32} {k69 : HI → HJ → Int32 → Option (HI × HJ × Int32)} {a0 : Nat} {x1 : Int32} (C : Cx X c_Mo_take RX11 2 (some .int) rm_Mo_take) (ha0 : gk Tm nM a0 (0, 11))
    (hk69 : ∀ (I : HI) (J : HJ) (x1 : Int32), k69 I J x1 = some r → G Tm X ad nM 0 0 I J N (gE X Tm ad nM (r.1, r.2.1, N, fun _ => some (.int r.2.2))) 69 2 [(0, .ref (ad a0)), (1, .int x1)] [])
    (h : Mo_take_69b N a0 k69 I J x1 = some r) : G Tm X ad nM 0 0 I J N (gE X Tm ad nM (r.1, r.2.1, N, fun _ => some (.int r.2.2))) 69 2 [(0, .ref (ad a0)), (1, .int x1)] [] := by
  refine g_iload_n (pc := 69) C d_Mo_take_69 rfl 1 rfl ?_
  refine g_bipush (pc := 70) C (7 : Int32) d_Mo_take_70 (by decide) ?_
  refine g_icmp_ge (pc := 72) C 110 d_Mo_take_72 rfl (fun e1 => ?_) (fun e1 => ?_)
  · have h := o_pos e1 h
    refine g_aload_n (pc := 110) C d_Mo_take_110 rfl 0 rfl ?_
    refine g_iconst (pc := 111) C (0 : Int32) d_Mo_take_111 (by decide) ?_
    obtain ⟨r2, hc3, h⟩ := o_bn1 h
    refine g_V (pc := 112) (rest := []) C (k_Mo_degree (xl X) ha0 hc3) sm_Mo_degree ml_Mo_128 im_Mo_degree se_Mo_degree gcX11 rfl ha0 ⟨rfl, rfl, Nat.le_of_ble_eq_true rfl, Nat.le_of_ble_eq_true rfl⟩ ⟨Nat.zero_le _, Nat.zero_le _⟩ rfl rfl (Nat.le_of_ble_eq_true rfl) d_Mo_take_112 [.int r2] rfl ?_
    refine g_aload_n (pc := 115) C d_Mo_take_115 rfl 0 rfl ?_
    refine g_iconst (pc := 116) C (1 : Int32) d_Mo_take_116 (by decide) ?_
    obtain ⟨r4, hc5, h⟩ := o_bn1 h
    refine g_V (pc := 117) (rest := [.int r2]) C (k_Mo_degree (xl X) ha0 hc5) sm_Mo_degree ml_Mo_128 im_Mo_degree se_Mo_degree gcX11 rfl ha0 ⟨rfl, rfl, Nat.le_of_ble_eq_true rfl, Nat.le_of_ble_eq_true rfl⟩ ⟨Nat.zero_le _, Nat.zero_le _⟩ rfl rfl (Nat.le_of_ble_eq_true rfl) d_Mo_take_117 [.int r4, .int r2] rfl ?_
    obtain ⟨r6, hc7, h⟩ := o_bn1 h
    refine g_S (pc := 120) (rest := []) C (k_Mo_greater (xl X)  hc7) sm_Mo_greater ml_Mo_131 st_Mo_greater ⟨rfl, rfl, Nat.le_of_ble_eq_true rfl, Nat.le_of_ble_eq_true rfl⟩ ⟨Nat.zero_le _, Nat.zero_le _⟩ rfl rfl (Nat.le_of_ble_eq_true rfl) d_Mo_take_120 [.int r6] rfl ?_
    obtain rfl := o_ret h
    exact g_iret (pc := 123) C d_Mo_take_123
  · have h := o_neg e1 h
    refine g_aload_n (pc := 75) C d_Mo_take_75 rfl 0 rfl ?_
    obtain ⟨b8, hnb8, hb8, h⟩ := o_ra h
    refine g_get (pc := 76) (k := 4) (v := va_rf ((N a0 4).map ad)) C gcX11 inX11 (by decide) fl_Mo_20 ha0 rfl d_Mo_take_76 ?_
    refine g_top (g_rf hnb8) ?_
    refine g_iload_n (pc := 79) C d_Mo_take_79 rfl 1 rfl ?_
    refine g_aload_n (pc := 80) C d_Mo_take_80 rfl 0 rfl ?_
    obtain ⟨b9, hnb9, hb9, h⟩ := o_ra h
    refine g_get (pc := 81) (k := 23) (v := va_rf ((N a0 23).map ad)) C gcX11 inX11 (by decide) fl_Mo_56 ha0 rfl d_Mo_take_81 ?_
    refine g_top (g_rf hnb9) ?_
    refine g_iload_n (pc := 84) C d_Mo_take_84 rfl 1 rfl ?_
    obtain ⟨hi10, h⟩ := o_gd h
    refine g_lald (pc := 85) C hb9 hi10 d_Mo_take_85 ?_
    refine g_l2i (pc := 86) C d_Mo_take_86 ?_
    obtain ⟨hi11, h⟩ := o_gd h
    refine g_iast (pc := 87) C hb8 hi11 d_Mo_take_87 ?_
    obtain ⟨I12, eI12, h⟩ := o_bd h
    rw [← eI12]
    refine g_aload_n (pc := 88) C d_Mo_take_88 rfl 0 rfl ?_
    obtain ⟨b13, hnb13, hb13, h⟩ := o_ra h
    refine g_get (pc := 89) (k := 4) (v := va_rf ((N a0 4).map ad)) C gcX11 inX11 (by decide) fl_Mo_20 ha0 rfl d_Mo_take_89 ?_
    refine g_top (g_rf hnb13) ?_
    refine g_bipush (pc := 92) C (7 : Int32) d_Mo_take_92 (by decide) ?_
    refine g_iload_n (pc := 94) C d_Mo_take_94 rfl 1 rfl ?_
    refine g_iadd (pc := 95) C d_Mo_take_95 ?_
    refine g_aload_n (pc := 96) C d_Mo_take_96 rfl 0 rfl ?_
    obtain ⟨b14, hnb14, hb14, h⟩ := o_ra h
    refine g_get (pc := 97) (k := 24) (v := va_rf ((N a0 24).map ad)) C gcX11 inX11 (by decide) fl_Mo_59 ha0 rfl d_Mo_take_97 ?_
    refine g_top (g_rf hnb14) ?_
    refine g_iload_n (pc := 100) C d_Mo_take_100 rfl 1 rfl ?_
    obtain ⟨hi15, h⟩ := o_gd h
    refine g_lald (pc := 101) C hb14 hi15 d_Mo_take_101 ?_
    refine g_l2i (pc := 102) C d_Mo_take_102 ?_
    obtain ⟨hi16, h⟩ := o_gd h
    refine g_iast (pc := 103) C hb13 hi16 d_Mo_take_103 ?_
    obtain ⟨I17, eI17, h⟩ := o_bd h
    rw [← eI17]
    refine g_iinc (pc := 104) (q := 1) (lv' := [(1, .int (x1 + 1)), (0, .ref (ad a0))]) C d_Mo_take_104 rfl rfl (by decide) rfl ?_
    refine g_goto (pc := 107) C 69 d_Mo_take_107 rfl ?_
    refine g_lv [1, 0] rfl ?_
    exact hk69 _ _ _ h
set_option maxRecDepth 20000 in
theorem w_Mo_take_69 {X : HX} {ad : Nat → Nat} {N : HN} {r : HI × HJ × Int32} {a0 : Nat} (C : Cx X c_Mo_take RX11 2 (some .int) rm_Mo_take) (ha0 : gk Tm nM a0 (0, 11)) : ∀ (n : Nat) (I : HI) (J : HJ) (x1 : Int32), Mo_take_69 N a0 n I J x1 = some r → G Tm X ad nM 0 0 I J N (gE X Tm ad nM (r.1, r.2.1, N, fun _ => some (.int r.2.2))) 69 2 [(0, .ref (ad a0)), (1, .int x1)] [] := by
  intro n
  induction n with
  | zero => intro I J x1 h; cases h
  | succ n ih => intro I J x1 h; exact w_Mo_take_69b C ha0 ih h
set_option maxRecDepth 20000 in
theorem w_Mo_take_16b {X : HX} {ad : Nat → Nat} {I : HI} {J : HJ} {N : HN} {r : HI × HJ × Int32} {k16 : HI → HJ → Int32 → Option (HI × HJ × Int32)} {a0 : Nat} {x1 : Int32} (C : Cx X c_Mo_take RX11 2 (some .int) rm_Mo_take) (ha0 : gk Tm nM a0 (0, 11))
    (hk16 : ∀ (I : HI) (J : HJ) (x1 : Int32), k16 I J x1 = some r → G Tm X ad nM 0 0 I J N (gE X Tm ad nM (r.1, r.2.1, N, fun _ => some (.int r.2.2))) 16 2 [(0, .ref (ad a0)), (1, .int x1)] [])
    (h : Mo_take_16b N a0 k16 I J x1 = some r) : G Tm X ad nM 0 0 I J N (gE X Tm ad nM (r.1, r.2.1, N, fun _ => some (.int r.2.2))) 16 2 [(0, .ref (ad a0)), (1, .int x1)] [] := by
  refine g_iload_n (pc := 16) C d_Mo_take_16 rfl 1 rfl ?_
  refine g_bipush (pc := 17) C (7 : Int32) d_Mo_take_17 (by decide) ?_
  refine g_icmp_ge (pc := 19) C 67 d_Mo_take_19 rfl (fun e1 => ?_) (fun e1 => ?_)
  · have h := o_pos e1 h
    refine g_iconst (pc := 67) C (0 : Int32) d_Mo_take_67 (by decide) ?_
    refine g_istore_n (pc := 68) (lv' := [(1, .int (0 : Int32)), (0, .ref (ad a0))]) C d_Mo_take_68 rfl (by decide) rfl ?_
    refine g_lv [1, 0] rfl ?_
    exact w_Mo_take_69 C ha0 _ _ _ _ h
  · have h := o_neg e1 h
    refine g_aload_n (pc := 22) C d_Mo_take_22 rfl 0 rfl ?_
    obtain ⟨b2, hnb2, hb2, h⟩ := o_ra h
    refine g_get (pc := 23) (k := 23) (v := va_rf ((N a0 23).map ad)) C gcX11 inX11 (by decide) fl_Mo_56 ha0 rfl d_Mo_take_23 ?_
    refine g_top (g_rf hnb2) ?_
    refine g_iload_n (pc := 26) C d_Mo_take_26 rfl 1 rfl ?_
    obtain ⟨hi3, h⟩ := o_gd h
    refine g_lald (pc := 27) C hb2 hi3 d_Mo_take_27 ?_
    refine g_ldc2 (pc := 28) C kc_Mo_116 d_Mo_take_28 ?_
    refine g_ldc2 (pc := 31) C kc_Mo_118 d_Mo_take_31 ?_
    obtain ⟨r4, hc5, h⟩ := o_bn1 h
    refine g_S (pc := 34) (rest := []) C (k_Mo_in (xl X)  hc5) sm_Mo_in ml_Mo_83 st_Mo_in ⟨rfl, rfl, Nat.le_of_ble_eq_true rfl, Nat.le_of_ble_eq_true rfl⟩ ⟨Nat.zero_le _, Nat.zero_le _⟩ rfl rfl (Nat.le_of_ble_eq_true rfl) d_Mo_take_34 [.int r4] rfl ?_
    refine g_if_eq (pc := 37) C 58 d_Mo_take_37 rfl (fun e6 => ?_) (fun e6 => ?_)
    · have h := o_pos e6 h
      refine g_bipush (pc := 58) C (-5 : Int32) d_Mo_take_58 (by decide) ?_
      obtain rfl := o_ret h
      exact g_iret (pc := 60) C d_Mo_take_60
    · have h := o_neg e6 h
      refine g_aload_n (pc := 40) C d_Mo_take_40 rfl 0 rfl ?_
      obtain ⟨b7, hnb7, hb7, h⟩ := o_ra h
      refine g_get (pc := 41) (k := 24) (v := va_rf ((N a0 24).map ad)) C gcX11 inX11 (by decide) fl_Mo_59 ha0 rfl d_Mo_take_41 ?_
      refine g_top (g_rf hnb7) ?_
      refine g_iload_n (pc := 44) C d_Mo_take_44 rfl 1 rfl ?_
      obtain ⟨hi8, h⟩ := o_gd h
      refine g_lald (pc := 45) C hb7 hi8 d_Mo_take_45 ?_
      refine g_ldc2 (pc := 46) C kc_Mo_116 d_Mo_take_46 ?_
      refine g_ldc2 (pc := 49) C kc_Mo_118 d_Mo_take_49 ?_
      obtain ⟨r9, hc10, h⟩ := o_bn1 h
      refine g_S (pc := 52) (rest := []) C (k_Mo_in (xl X)  hc10) sm_Mo_in ml_Mo_83 st_Mo_in ⟨rfl, rfl, Nat.le_of_ble_eq_true rfl, Nat.le_of_ble_eq_true rfl⟩ ⟨Nat.zero_le _, Nat.zero_le _⟩ rfl rfl (Nat.le_of_ble_eq_true rfl) d_Mo_take_52 [.int r9] rfl ?_
      refine g_if_ne (pc := 55) C 61 d_Mo_take_55 rfl (fun e11 => ?_) (fun e11 => ?_)
      · have h := o_neg e11 h
        refine g_iinc (pc := 61) (q := 1) (lv' := [(1, .int (x1 + 1)), (0, .ref (ad a0))]) C d_Mo_take_61 rfl rfl (by decide) rfl ?_
        refine g_goto (pc := 64) C 16 d_Mo_take_64 rfl ?_
        refine g_lv [1, 0] rfl ?_
        exact hk16 _ _ _ h
      · have h := o_pos e11 h
        refine g_bipush (pc := 58) C (-5 : Int32) d_Mo_take_58 (by decide) ?_
        obtain rfl := o_ret h
        exact g_iret (pc := 60) C d_Mo_take_60
set_option maxRecDepth 20000 in
theorem w_Mo_take_16 {X : HX} {ad : Nat → Nat} {N : HN} {r : HI × HJ × Int32} {a0 : Nat} (C : Cx X c_Mo_take RX11 2 (some .int) rm_Mo_take) (ha0 : gk Tm nM a0 (0, 11)) : ∀ (n : Nat) (I : HI) (J : HJ) (x1 : Int32), Mo_take_16 N a0 n I J x1 = some r → G Tm X ad nM 0 0 I J N (gE X Tm ad nM (r.1, r.2.1, N, fun _ => some (.int r.2.2))) 16 2 [(0, .ref (ad a0)), (1, .int x1)] [] := by
  intro n
  induction n with
  | zero => intro I J x1 h; cases h
  | succ n ih => intro I J x1 h; exact w_Mo_take_16b C ha0 ih h
set_option maxRecDepth 20000 in
theorem w_Mo_take_0 {X : HX} {ad : Nat → Nat} {I : HI} {J : HJ} {N : HN} {r : HI × HJ × Int32} {a0 : Nat} (C : Cx X c_Mo_take RX11 2 (some .int) rm_Mo_take) (ha0 : gk Tm nM a0 (0, 11))
    (h : Mo_take_0 N a0 I J = some r) : G Tm X ad nM 0 0 I J N (gE X Tm ad nM (r.1, r.2.1, N, fun _ => some (.int r.2.2))) 0 2 [(0, .ref (ad a0))] [] := by
  refine g_aload_n (pc := 0) C d_Mo_take_0 rfl 0 rfl ?_
  refine g_get (pc := 1) (k := 6) (v := .int (I a0 6)) C gcX11 inX11 (by decide) fl_Mo_159 ha0 rfl d_Mo_take_1 ?_
  refine g_if_ne (pc := 4) C 10 d_Mo_take_4 rfl (fun e1 => ?_) (fun e1 => ?_)
  · have h := o_neg e1 h
    refine g_aload_n (pc := 10) C d_Mo_take_10 rfl 0 rfl ?_
    obtain ⟨J2, hc3, h⟩ := o_bn1 h
    refine g_V (pc := 11) (rest := []) C (k_Mo_folds (xl X) ha0 hc3) sm_Mo_folds ml_Mo_285 im_Mo_folds se_Mo_folds gcX11 rfl ha0 ⟨rfl, rfl, Nat.le_of_ble_eq_true rfl, Nat.le_of_ble_eq_true rfl⟩ ⟨Nat.zero_le _, Nat.zero_le _⟩ rfl rfl (Nat.le_of_ble_eq_true rfl) d_Mo_take_11 [] rfl ?_
    refine g_iconst (pc := 14) C (0 : Int32) d_Mo_take_14 (by decide) ?_
    refine g_istore_n (pc := 15) (lv' := [(1, .int (0 : Int32)), (0, .ref (ad a0))]) C d_Mo_take_15 rfl (by decide) rfl ?_
    refine g_lv [1, 0] rfl ?_
    exact w_Mo_take_16 C ha0 _ _ _ _ h
  · have h := o_pos e1 h
    refine g_bipush (pc := 7) C (-3 : Int32) d_Mo_take_7 (by decide) ?_
    obtain rfl := o_ret h
    exact g_iret (pc := 9) C d_Mo_take_9
set_option maxRecDepth 20000 in
theorem k_Mo_take (l : Launch) {I : HI} {J : HJ} {N : HN} {a0 : Nat} {r : HI × HJ × Int32} (ha0 : gk Tm nM a0 (0, 11)) (h : Mo_take N a0 I J = some r) : gM l y_Mo_take c_Mo_take 2 (some .int) rm_Mo_take Tm nM I J N (fun ad => [.ref (ad a0)]) (r.1, r.2.1, N, fun _ => some (.int r.2.2)) :=
  g_meth (lv := fun ad => [(0, .ref (ad a0))]) (by decide) (fun _ => Nat.le_of_ble_eq_true rfl) (fun _ => rfl) (fun X ad C => g_lv [0] rfl (w_Mo_take_0 C ha0 h))
theorem d_Mo_partUp_0 : decode c_Mo_partUp 0 = .ok (.aload_n 0, 1) := by decide +kernel
theorem d_Mo_partUp_1 : decode c_Mo_partUp 1 = .ok (.getfield 23, 3) := by decide +kernel
theorem d_Mo_partUp_4 : decode c_Mo_partUp 4 = .ok (.iconst 5, 1) := by decide +kernel
theorem d_Mo_partUp_5 : decode c_Mo_partUp 5 = .ok (.iload_n 1, 1) := by decide +kernel
theorem d_Mo_partUp_6 : decode c_Mo_partUp 6 = .ok (.iconst 2, 1) := by decide +kernel
theorem d_Mo_partUp_7 : decode c_Mo_partUp 7 = .ok (.idiv, 1) := by decide +kernel
theorem d_Mo_partUp_8 : decode c_Mo_partUp 8 = .ok (.imul, 1) := by decide +kernel
theorem d_Mo_partUp_9 : decode c_Mo_partUp 9 = .ok (.iconst 1, 1) := by decide +kernel
theorem d_Mo_partUp_10 : decode c_Mo_partUp 10 = .ok (.iadd, 1) := by decide +kernel
theorem d_Mo_partUp_11 : decode c_Mo_partUp 11 = .ok (.iconst 2, 1) := by decide +kernel
theorem d_Mo_partUp_12 : decode c_Mo_partUp 12 = .ok (.iload_n 1, 1) := by decide +kernel
theorem d_Mo_partUp_13 : decode c_Mo_partUp 13 = .ok (.iconst 2, 1) := by decide +kernel
theorem d_Mo_partUp_14 : decode c_Mo_partUp 14 = .ok (.irem, 1) := by decide +kernel
theorem d_Mo_partUp_15 : decode c_Mo_partUp 15 = .ok (.imul, 1) := by decide +kernel
theorem d_Mo_partUp_16 : decode c_Mo_partUp 16 = .ok (.iadd, 1) := by decide +kernel
theorem d_Mo_partUp_17 : decode c_Mo_partUp 17 = .ok (.iaload, 1) := by decide +kernel
theorem d_Mo_partUp_18 : decode c_Mo_partUp 18 = .ok (.ireturn, 1) := by decide +kernel
set_option maxRecDepth 20000 in
theorem w_Mo_partUp_0 {X : HX} {ad : Nat → Nat} {I : HI} {J : HJ} {N : HN} {r : Int32} {a0 : Nat} {p1 : Int32} (C : Cx X c_Mo_partUp RX11 2 (some .int) rm_Mo_partUp) (ha0 : gk Tm nM a0 (0, 11))
    (h : Mo_partUp_0 I N a0 p1 = some r) : G Tm X ad nM 0 0 I J N (gE X Tm ad nM (I, J, N, fun _ => some (.int r))) 0 2 [(0, .ref (ad a0)), (1, .int p1)] [] := by
  refine g_aload_n (pc := 0) C d_Mo_partUp_0 rfl 0 rfl ?_
  obtain ⟨b1, hnb1, hb1, h⟩ := o_ra h
  refine g_get (pc := 1) (k := 5) (v := va_rf ((N a0 5).map ad)) C gcX11 inX11 (by decide) fl_Mo_23 ha0 rfl d_Mo_partUp_1 ?_
  refine g_top (g_rf hnb1) ?_
  refine g_iconst (pc := 4) C (5 : Int32) d_Mo_partUp_4 (by decide) ?_
  refine g_iload_n (pc := 5) C d_Mo_partUp_5 rfl 1 rfl ?_
  refine g_iconst (pc := 6) C (2 : Int32) d_Mo_partUp_6 (by decide) ?_
  refine g_idiv (pc := 7) C d_Mo_partUp_7 (by decide) ?_
  refine g_imul (pc := 8) C d_Mo_partUp_8 ?_
  refine g_iconst (pc := 9) C (1 : Int32) d_Mo_partUp_9 (by decide) ?_
  refine g_iadd (pc := 10) C d_Mo_partUp_10 ?_
  refine g_iconst (pc := 11) C (2 : Int32) d_Mo_partUp_11 (by decide) ?_
  refine g_iload_n (pc := 12) C d_Mo_partUp_12 rfl 1 rfl ?_
  refine g_iconst (pc := 13) C (2 : Int32) d_Mo_partUp_13 (by decide) ?_
  refine g_irem (pc := 14) C d_Mo_partUp_14 (by decide) ?_
  refine g_imul (pc := 15) C d_Mo_partUp_15 ?_
  refine g_iadd (pc := 16) C d_Mo_partUp_16 ?_
  obtain ⟨hi2, h⟩ := o_gd h
  refine g_iald (pc := 17) C hb1 hi2 d_Mo_partUp_17 ?_
  obtain rfl := o_ret h
  exact g_iret (pc := 18) C d_Mo_partUp_18
set_option maxRecDepth 20000 in
theorem k_Mo_partUp (l : Launch) {I : HI} {J : HJ} {N : HN} {a0 : Nat} {p1 : Int32} {r : Int32} (ha0 : gk Tm nM a0 (0, 11)) (h : Mo_partUp I N a0 p1 = some r) : gM l y_Mo_partUp c_Mo_partUp 2 (some .int) rm_Mo_partUp Tm nM I J N (fun ad => [.ref (ad a0), .int p1]) (I, J, N, fun _ => some (.int r)) :=
  g_meth (lv := fun ad => [(0, .ref (ad a0)), (1, .int p1)]) (by decide) (fun _ => Nat.le_of_ble_eq_true rfl) (fun _ => rfl) (fun X ad C => g_lv [0, 1] rfl (w_Mo_partUp_0 C ha0 h))
