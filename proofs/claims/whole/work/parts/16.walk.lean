theorem d_Mo_divides_0 : decode c_Mo_divides 0 = .ok (.iconst 0, 1) := by decide +kernel
theorem d_Mo_divides_1 : decode c_Mo_divides 1 = .ok (.istore_n 2, 1) := by decide +kernel
theorem d_Mo_divides_2 : decode c_Mo_divides 2 = .ok (.iload_n 2, 1) := by decide +kernel
theorem d_Mo_divides_3 : decode c_Mo_divides 3 = .ok (.bipush 7, 2) := by decide +kernel
theorem d_Mo_divides_5 : decode c_Mo_divides 5 = .ok (.if_icmp .ge 51, 3) := by decide +kernel
theorem d_Mo_divides_8 : decode c_Mo_divides 8 = .ok (.iload_n 1, 1) := by decide +kernel
theorem d_Mo_divides_9 : decode c_Mo_divides 9 = .ok (.ifCond .ne 7, 3) := by decide +kernel
theorem d_Mo_divides_12 : decode c_Mo_divides 12 = .ok (.iload_n 2, 1) := by decide +kernel
theorem d_Mo_divides_13 : decode c_Mo_divides 13 = .ok (.goto 7, 3) := by decide +kernel
theorem d_Mo_divides_16 : decode c_Mo_divides 16 = .ok (.bipush 6, 2) := by decide +kernel
theorem d_Mo_divides_18 : decode c_Mo_divides 18 = .ok (.iload_n 2, 1) := by decide +kernel
theorem d_Mo_divides_19 : decode c_Mo_divides 19 = .ok (.isub, 1) := by decide +kernel
theorem d_Mo_divides_20 : decode c_Mo_divides 20 = .ok (.istore_n 3, 1) := by decide +kernel
theorem d_Mo_divides_21 : decode c_Mo_divides 21 = .ok (.aload_n 0, 1) := by decide +kernel
theorem d_Mo_divides_22 : decode c_Mo_divides 22 = .ok (.getfield 29, 3) := by decide +kernel
theorem d_Mo_divides_25 : decode c_Mo_divides 25 = .ok (.iload_n 2, 1) := by decide +kernel
theorem d_Mo_divides_26 : decode c_Mo_divides 26 = .ok (.aload_n 0, 1) := by decide +kernel
theorem d_Mo_divides_27 : decode c_Mo_divides 27 = .ok (.getfield 20, 3) := by decide +kernel
theorem d_Mo_divides_30 : decode c_Mo_divides 30 = .ok (.iload_n 3, 1) := by decide +kernel
theorem d_Mo_divides_31 : decode c_Mo_divides 31 = .ok (.iaload, 1) := by decide +kernel
theorem d_Mo_divides_32 : decode c_Mo_divides 32 = .ok (.i2l, 1) := by decide +kernel
theorem d_Mo_divides_33 : decode c_Mo_divides 33 = .ok (.lastore, 1) := by decide +kernel
theorem d_Mo_divides_34 : decode c_Mo_divides 34 = .ok (.aload_n 0, 1) := by decide +kernel
theorem d_Mo_divides_35 : decode c_Mo_divides 35 = .ok (.getfield 32, 3) := by decide +kernel
theorem d_Mo_divides_38 : decode c_Mo_divides 38 = .ok (.iload_n 2, 1) := by decide +kernel
theorem d_Mo_divides_39 : decode c_Mo_divides 39 = .ok (.aload_n 0, 1) := by decide +kernel
theorem d_Mo_divides_40 : decode c_Mo_divides 40 = .ok (.getfield 20, 3) := by decide +kernel
theorem d_Mo_divides_43 : decode c_Mo_divides 43 = .ok (.bipush 7, 2) := by decide +kernel
theorem d_Mo_divides_45 : decode c_Mo_divides 45 = .ok (.iload_n 3, 1) := by decide +kernel
theorem d_Mo_divides_46 : decode c_Mo_divides 46 = .ok (.iadd, 1) := by decide +kernel
theorem d_Mo_divides_47 : decode c_Mo_divides 47 = .ok (.iaload, 1) := by decide +kernel
theorem d_Mo_divides_48 : decode c_Mo_divides 48 = .ok (.i2l, 1) := by decide +kernel
theorem d_Mo_divides_49 : decode c_Mo_divides 49 = .ok (.lastore, 1) := by decide +kernel
theorem d_Mo_divides_50 : decode c_Mo_divides 50 = .ok (.iinc 2 1, 3) := by decide +kernel
theorem d_Mo_divides_53 : decode c_Mo_divides 53 = .ok (.goto (-51), 3) := by decide +kernel
theorem d_Mo_divides_56 : decode c_Mo_divides 56 = .ok (.aload_n 0, 1) := by decide +kernel
theorem d_Mo_divides_57 : decode c_Mo_divides 57 = .ok (.getfield 29, 3) := by decide +kernel
theorem d_Mo_divides_60 : decode c_Mo_divides 60 = .ok (.invokestatic 184, 3) := by decide +kernel
theorem d_Mo_divides_63 : decode c_Mo_divides 63 = .ok (.aload_n 0, 1) := by decide +kernel
theorem d_Mo_divides_64 : decode c_Mo_divides 64 = .ok (.getfield 32, 3) := by decide +kernel
theorem d_Mo_divides_67 : decode c_Mo_divides 67 = .ok (.invokestatic 184, 3) := by decide +kernel
theorem d_Mo_divides_70 : decode c_Mo_divides 70 = .ok (.if_icmp .le 7, 3) := by decide +kernel
theorem d_Mo_divides_73 : decode c_Mo_divides 73 = .ok (.iconst 0, 1) := by decide +kernel
theorem d_Mo_divides_74 : decode c_Mo_divides 74 = .ok (.goto 4, 3) := by decide +kernel
theorem d_Mo_divides_77 : decode c_Mo_divides 77 = .ok (.iconst 1, 1) := by decide +kernel
theorem d_Mo_divides_78 : decode c_Mo_divides 78 = .ok (.istore_n 2, 1) := by decide +kernel
theorem d_Mo_divides_79 : decode c_Mo_divides 79 = .ok (.iload_n 2, 1) := by decide +kernel
theorem d_Mo_divides_80 : decode c_Mo_divides 80 = .ok (.iconst 1, 1) := by decide +kernel
theorem d_Mo_divides_81 : decode c_Mo_divides 81 = .ok (.if_icmp .ne 7, 3) := by decide +kernel
theorem d_Mo_divides_84 : decode c_Mo_divides 84 = .ok (.aload_n 0, 1) := by decide +kernel
theorem d_Mo_divides_85 : decode c_Mo_divides 85 = .ok (.invokevirtual 188, 3) := by decide +kernel
theorem d_Mo_divides_88 : decode c_Mo_divides 88 = .ok (.aload_n 0, 1) := by decide +kernel
theorem d_Mo_divides_89 : decode c_Mo_divides 89 = .ok (.getfield 29, 3) := by decide +kernel
theorem d_Mo_divides_92 : decode c_Mo_divides 92 = .ok (.invokestatic 191, 3) := by decide +kernel
theorem d_Mo_divides_95 : decode c_Mo_divides 95 = .ok (.lstore_n 3, 1) := by decide +kernel
theorem d_Mo_divides_96 : decode c_Mo_divides 96 = .ok (.aload_n 0, 1) := by decide +kernel
theorem d_Mo_divides_97 : decode c_Mo_divides 97 = .ok (.getfield 32, 3) := by decide +kernel
theorem d_Mo_divides_100 : decode c_Mo_divides 100 = .ok (.invokestatic 191, 3) := by decide +kernel
theorem d_Mo_divides_103 : decode c_Mo_divides 103 = .ok (.lstore 5, 2) := by decide +kernel
theorem d_Mo_divides_105 : decode c_Mo_divides 105 = .ok (.aload_n 0, 1) := by decide +kernel
theorem d_Mo_divides_106 : decode c_Mo_divides 106 = .ok (.lload_n 3, 1) := by decide +kernel
theorem d_Mo_divides_107 : decode c_Mo_divides 107 = .ok (.lload 5, 2) := by decide +kernel
theorem d_Mo_divides_109 : decode c_Mo_divides 109 = .ok (.lconst 1, 1) := by decide +kernel
theorem d_Mo_divides_110 : decode c_Mo_divides 110 = .ok (.lconst 1, 1) := by decide +kernel
theorem d_Mo_divides_111 : decode c_Mo_divides 111 = .ok (.invokevirtual 195, 3) := by decide +kernel
theorem d_Mo_divides_114 : decode c_Mo_divides 114 = .ok (.aload_n 0, 1) := by decide +kernel
theorem d_Mo_divides_115 : decode c_Mo_divides 115 = .ok (.iconst 0, 1) := by decide +kernel
theorem d_Mo_divides_116 : decode c_Mo_divides 116 = .ok (.putfield 175, 3) := by decide +kernel
theorem d_Mo_divides_119 : decode c_Mo_divides 119 = .ok (.iconst 0, 1) := by decide +kernel
theorem d_Mo_divides_120 : decode c_Mo_divides 120 = .ok (.istore 7, 2) := by decide +kernel
theorem d_Mo_divides_122 : decode c_Mo_divides 122 = .ok (.iload 7, 2) := by decide +kernel
theorem d_Mo_divides_124 : decode c_Mo_divides 124 = .ok (.bipush 8, 2) := by decide +kernel
theorem d_Mo_divides_126 : decode c_Mo_divides 126 = .ok (.if_icmp .ge 42, 3) := by decide +kernel
theorem d_Mo_divides_129 : decode c_Mo_divides 129 = .ok (.aload_n 0, 1) := by decide +kernel
theorem d_Mo_divides_130 : decode c_Mo_divides 130 = .ok (.getfield 32, 3) := by decide +kernel
theorem d_Mo_divides_133 : decode c_Mo_divides 133 = .ok (.invokestatic 184, 3) := by decide +kernel
theorem d_Mo_divides_136 : decode c_Mo_divides 136 = .ok (.iconst (-1), 1) := by decide +kernel
theorem d_Mo_divides_137 : decode c_Mo_divides 137 = .ok (.if_icmp .eq 31, 3) := by decide +kernel
theorem d_Mo_divides_140 : decode c_Mo_divides 140 = .ok (.aload_n 0, 1) := by decide +kernel
theorem d_Mo_divides_141 : decode c_Mo_divides 141 = .ok (.iload_n 1, 1) := by decide +kernel
theorem d_Mo_divides_142 : decode c_Mo_divides 142 = .ok (.iload_n 2, 1) := by decide +kernel
theorem d_Mo_divides_143 : decode c_Mo_divides 143 = .ok (.iload 7, 2) := by decide +kernel
theorem d_Mo_divides_145 : decode c_Mo_divides 145 = .ok (.invokevirtual 199, 3) := by decide +kernel
theorem d_Mo_divides_148 : decode c_Mo_divides 148 = .ok (.istore 8, 2) := by decide +kernel
theorem d_Mo_divides_150 : decode c_Mo_divides 150 = .ok (.iload 8, 2) := by decide +kernel
theorem d_Mo_divides_152 : decode c_Mo_divides 152 = .ok (.ifCond .eq 6, 3) := by decide +kernel
theorem d_Mo_divides_155 : decode c_Mo_divides 155 = .ok (.iload 8, 2) := by decide +kernel
theorem d_Mo_divides_157 : decode c_Mo_divides 157 = .ok (.ireturn, 1) := by decide +kernel
theorem d_Mo_divides_158 : decode c_Mo_divides 158 = .ok (.iconst 1, 1) := by decide +kernel
theorem d_Mo_divides_159 : decode c_Mo_divides 159 = .ok (.iload_n 2, 1) := by decide +kernel
theorem d_Mo_divides_160 : decode c_Mo_divides 160 = .ok (.isub, 1) := by decide +kernel
theorem d_Mo_divides_161 : decode c_Mo_divides 161 = .ok (.istore_n 2, 1) := by decide +kernel
theorem d_Mo_divides_162 : decode c_Mo_divides 162 = .ok (.iinc 7 1, 3) := by decide +kernel
theorem d_Mo_divides_165 : decode c_Mo_divides 165 = .ok (.goto (-43), 3) := by decide +kernel
theorem d_Mo_divides_168 : decode c_Mo_divides 168 = .ok (.aload_n 0, 1) := by decide +kernel
theorem d_Mo_divides_169 : decode c_Mo_divides 169 = .ok (.getfield 26, 3) := by decide +kernel
theorem d_Mo_divides_172 : decode c_Mo_divides 172 = .ok (.aload_n 0, 1) := by decide +kernel
theorem d_Mo_divides_173 : decode c_Mo_divides 173 = .ok (.getfield 175, 3) := by decide +kernel
theorem d_Mo_divides_176 : decode c_Mo_divides 176 = .ok (.invokestatic 162, 3) := by decide +kernel
theorem d_Mo_divides_179 : decode c_Mo_divides 179 = .ok (.ireturn, 1) := by decide +kernel
set_option maxRecDepth 20000 in
theorem w_Mo_divides_168 {X : HX} {ad : Nat → Nat} {I : HI} {J : HJ} {N : HN} {r : HI × HJ × Int32} {a0 : Nat} {p1 : Int32} (C : Cx X c_Mo_divides RX11 9 (some .int) rm_Mo_divides) (ha0 : gk Tm nM a0 (0, 11))
    (h : Mo_divides_168 N a0 p1 I J = some r) : G Tm X ad nM 0 0 I J N (gE X Tm ad nM (r.1, r.2.1, N, fun _ => some (.int r.2.2))) 168 9 [(0, .ref (ad a0))] [] := by
  refine g_aload_n (pc := 168) C d_Mo_divides_168 rfl 0 rfl ?_
  obtain ⟨b1, hnb1, hb1, h⟩ := o_ra h
  refine g_get (pc := 169) (k := 7) (v := va_rf ((N a0 7).map ad)) C gcX11 inX11 (by decide) fl_Mo_26 ha0 rfl d_Mo_divides_169 ?_
  refine g_top (g_rf hnb1) ?_
  refine g_aload_n (pc := 172) C d_Mo_divides_172 rfl 0 rfl ?_
  refine g_get (pc := 173) (k := 8) (v := .int (I a0 8)) C gcX11 inX11 (by decide) fl_Mo_175 ha0 rfl d_Mo_divides_173 ?_
  obtain ⟨r2, hc3, h⟩ := o_bn1 h
  refine g_S (pc := 176) (rest := []) C (k_Mo_valuesIn (xl X) hb1 hc3) sm_Mo_valuesIn ml_Mo_162 st_Mo_valuesIn ⟨rfl, rfl, Nat.le_of_ble_eq_true rfl, Nat.le_of_ble_eq_true rfl⟩ ⟨Nat.zero_le _, Nat.zero_le _⟩ rfl rfl (Nat.le_of_ble_eq_true rfl) d_Mo_divides_176 [.int r2] rfl ?_
  obtain rfl := o_ret h
  exact g_iret (pc := 179) C d_Mo_divides_179
set_option maxRecDepth 20000 in
theorem w_Mo_divides_122b {X : HX} {ad : Nat → Nat} {I : HI} {J : HJ} {N : HN} {r : HI × HJ × Int32} {k122 : HI → HJ → Int32 → Int32 → Option (HI × HJ × Int32)} {a0 : Nat} {p1 : Int32} {x2 : Int32} {x7 : Int32} (C : Cx X c_Mo_divides RX11 9 (some .int) rm_Mo_divides) (ha0 : gk Tm nM a0 (0, 11))
    (hk122 : ∀ (I : HI) (J : HJ) (x2 : Int32) (x7 : Int32), k122 I J x2 x7 = some r → G Tm X ad nM 0 0 I J N (gE X Tm ad nM (r.1, r.2.1, N, fun _ => some (.int r.2.2))) 122 9 [(0, .ref (ad a0)), (1, .int p1), (2, .int x2), (7, .int x7)] [])
    (h : Mo_divides_122b N a0 p1 k122 I J x2 x7 = some r) : G Tm X ad nM 0 0 I J N (gE X Tm ad nM (r.1, r.2.1, N, fun _ => some (.int r.2.2))) 122 9 [(0, .ref (ad a0)), (1, .int p1), (2, .int x2), (7, .int x7)] [] := by
  refine g_iload (pc := 122) C d_Mo_divides_122 3 rfl ?_
  refine g_bipush (pc := 124) C (8 : Int32) d_Mo_divides_124 (by decide) ?_
  refine g_icmp_ge (pc := 126) C 168 d_Mo_divides_126 rfl (fun e1 => ?_) (fun e1 => ?_)
  · have h := o_pos e1 h
    refine g_lv [0] rfl ?_
    exact w_Mo_divides_168 C ha0 h
  · have h := o_neg e1 h
    refine g_aload_n (pc := 129) C d_Mo_divides_129 rfl 0 rfl ?_
    obtain ⟨b2, hnb2, hb2, h⟩ := o_ra h
    refine g_get (pc := 130) (k := 12) (v := va_rf ((N a0 12).map ad)) C gcX11 inX11 (by decide) fl_Mo_32 ha0 rfl d_Mo_divides_130 ?_
    refine g_top (g_rf hnb2) ?_
    obtain ⟨r3, hc4, h⟩ := o_bn1 h
    refine g_S (pc := 133) (rest := []) C (k_Mo_top (xl X) hb2 hc4) sm_Mo_top ml_Mo_184 st_Mo_top ⟨rfl, rfl, Nat.le_of_ble_eq_true rfl, Nat.le_of_ble_eq_true rfl⟩ ⟨Nat.zero_le _, Nat.zero_le _⟩ rfl rfl (Nat.le_of_ble_eq_true rfl) d_Mo_divides_133 [.int r3] rfl ?_
    refine g_iconst (pc := 136) C (-1 : Int32) d_Mo_divides_136 (by decide) ?_
    refine g_icmp_eq (pc := 137) C 168 d_Mo_divides_137 rfl (fun e5 => ?_) (fun e5 => ?_)
    · have h := o_pos e5 h
      refine g_lv [0] rfl ?_
      exact w_Mo_divides_168 C ha0 h
    · have h := o_neg e5 h
      refine g_aload_n (pc := 140) C d_Mo_divides_140 rfl 0 rfl ?_
      refine g_iload_n (pc := 141) C d_Mo_divides_141 rfl 1 rfl ?_
      refine g_iload_n (pc := 142) C d_Mo_divides_142 rfl 2 rfl ?_
      refine g_iload (pc := 143) C d_Mo_divides_143 3 rfl ?_
      obtain ⟨I6, J7, r8, hc9, h⟩ := o_bn3 h
      refine g_V (pc := 145) (rest := []) C (k_Mo_dividesOnce (xl X) ha0 hc9) sm_Mo_dividesOnce ml_Mo_199 im_Mo_dividesOnce se_Mo_dividesOnce gcX11 rfl ha0 ⟨rfl, rfl, Nat.le_of_ble_eq_true rfl, Nat.le_of_ble_eq_true rfl⟩ ⟨Nat.zero_le _, Nat.zero_le _⟩ rfl rfl (Nat.le_of_ble_eq_true rfl) d_Mo_divides_145 [.int r8] rfl ?_
      refine g_istore (pc := 148) (lv' := [(8, .int r8), (0, .ref (ad a0)), (1, .int p1), (2, .int x2), (7, .int x7)]) C d_Mo_divides_148 (by decide) rfl ?_
      refine g_iload (pc := 150) C d_Mo_divides_150 0 rfl ?_
      refine g_if_eq (pc := 152) C 158 d_Mo_divides_152 rfl (fun e10 => ?_) (fun e10 => ?_)
      · have h := o_pos e10 h
        refine g_iconst (pc := 158) C (1 : Int32) d_Mo_divides_158 (by decide) ?_
        refine g_iload_n (pc := 159) C d_Mo_divides_159 rfl 3 rfl ?_
        refine g_isub (pc := 160) C d_Mo_divides_160 ?_
        obtain ⟨v11, ev11, h⟩ := o_bd h
        refine g_topi ev11 ?_
        refine g_istore_n (pc := 161) (lv' := [(2, .int v11), (8, .int r8), (0, .ref (ad a0)), (1, .int p1), (7, .int x7)]) C d_Mo_divides_161 rfl (by decide) rfl ?_
        refine g_iinc (pc := 162) (q := 4) (lv' := [(7, .int (x7 + 1)), (2, .int v11), (8, .int r8), (0, .ref (ad a0)), (1, .int p1)]) C d_Mo_divides_162 rfl rfl (by decide) rfl ?_
        refine g_goto (pc := 165) C 122 d_Mo_divides_165 rfl ?_
        refine g_lv [3, 4, 1, 0] rfl ?_
        exact hk122 _ _ _ _ h
      · have h := o_neg e10 h
        refine g_iload (pc := 155) C d_Mo_divides_155 0 rfl ?_
        obtain rfl := o_ret h
        exact g_iret (pc := 157) C d_Mo_divides_157
set_option maxRecDepth 20000 in
theorem w_Mo_divides_122 {X : HX} {ad : Nat → Nat} {N : HN} {r : HI × HJ × Int32} {a0 : Nat} {p1 : Int32} (C : Cx X c_Mo_divides RX11 9 (some .int) rm_Mo_divides) (ha0 : gk Tm nM a0 (0, 11)) : ∀ (n : Nat) (I : HI) (J : HJ) (x2 : Int32) (x7 : Int32), Mo_divides_122 N a0 p1 n I J x2 x7 = some r → G Tm X ad nM 0 0 I J N (gE X Tm ad nM (r.1, r.2.1, N, fun _ => some (.int r.2.2))) 122 9 [(0, .ref (ad a0)), (1, .int p1), (2, .int x2), (7, .int x7)] [] := by
  intro n
  induction n with
  | zero => intro I J x2 x7 h; cases h
  | succ n ih => intro I J x2 x7 h; exact w_Mo_divides_122b C ha0 ih h
set_option maxRecDepth 20000 in
theorem w_Mo_divides_88 {X : HX} {ad : Nat → Nat} {I : HI} {J : HJ} {N : HN} {r : HI × HJ × Int32} {a0 : Nat} {p1 : Int32} {x2 : Int32} (C : Cx X c_Mo_divides RX11 9 (some .int) rm_Mo_divides) (ha0 : gk Tm nM a0 (0, 11))
    (h : Mo_divides_88 N a0 p1 I J x2 = some r) : G Tm X ad nM 0 0 I J N (gE X Tm ad nM (r.1, r.2.1, N, fun _ => some (.int r.2.2))) 88 9 [(0, .ref (ad a0)), (1, .int p1), (2, .int x2)] [] := by
  refine g_aload_n (pc := 88) C d_Mo_divides_88 rfl 0 rfl ?_
  obtain ⟨b1, hnb1, hb1, h⟩ := o_ra h
  refine g_get (pc := 89) (k := 11) (v := va_rf ((N a0 11).map ad)) C gcX11 inX11 (by decide) fl_Mo_29 ha0 rfl d_Mo_divides_89 ?_
  refine g_top (g_rf hnb1) ?_
  obtain ⟨J2, r3, hc4, h⟩ := o_bn2 h
  refine g_S (pc := 92) (rest := []) C (k_Mo_content (xl X) hb1 hc4) sm_Mo_content ml_Mo_191 st_Mo_content ⟨rfl, rfl, Nat.le_of_ble_eq_true rfl, Nat.le_of_ble_eq_true rfl⟩ ⟨Nat.zero_le _, Nat.zero_le _⟩ rfl rfl (Nat.le_of_ble_eq_true rfl) d_Mo_divides_92 [.long r3] rfl ?_
  refine g_lstore_n (pc := 95) (lv' := [(3, .long r3), (0, .ref (ad a0)), (1, .int p1), (2, .int x2)]) C d_Mo_divides_95 rfl (by decide) rfl ?_
  refine g_aload_n (pc := 96) C d_Mo_divides_96 rfl 1 rfl ?_
  obtain ⟨b5, hnb5, hb5, h⟩ := o_ra h
  refine g_get (pc := 97) (k := 12) (v := va_rf ((N a0 12).map ad)) C gcX11 inX11 (by decide) fl_Mo_32 ha0 rfl d_Mo_divides_97 ?_
  refine g_top (g_rf hnb5) ?_
  obtain ⟨J6, r7, hc8, h⟩ := o_bn2 h
  refine g_S (pc := 100) (rest := []) C (k_Mo_content (xl X) hb5 hc8) sm_Mo_content ml_Mo_191 st_Mo_content ⟨rfl, rfl, Nat.le_of_ble_eq_true rfl, Nat.le_of_ble_eq_true rfl⟩ ⟨Nat.zero_le _, Nat.zero_le _⟩ rfl rfl (Nat.le_of_ble_eq_true rfl) d_Mo_divides_100 [.long r7] rfl ?_
  refine g_lstore (pc := 103) (lv' := [(5, .long r7), (3, .long r3), (0, .ref (ad a0)), (1, .int p1), (2, .int x2)]) C d_Mo_divides_103 (by decide) rfl ?_
  refine g_aload_n (pc := 105) C d_Mo_divides_105 rfl 2 rfl ?_
  refine g_lload_n (pc := 106) C d_Mo_divides_106 rfl 1 rfl ?_
  refine g_lload (pc := 107) C d_Mo_divides_107 0 rfl ?_
  refine g_lconst (pc := 109) C (1 : Int64) d_Mo_divides_109 (by decide) ?_
  refine g_lconst (pc := 110) C (1 : Int64) d_Mo_divides_110 (by decide) ?_
  obtain ⟨J9, hc10, h⟩ := o_bn1 h
  refine g_V (pc := 111) (rest := []) C (k_Mo_scales (xl X) ha0 hc10) sm_Mo_scales ml_Mo_195 im_Mo_scales se_Mo_scales gcX11 rfl ha0 ⟨rfl, rfl, Nat.le_of_ble_eq_true rfl, Nat.le_of_ble_eq_true rfl⟩ ⟨Nat.zero_le _, Nat.zero_le _⟩ rfl rfl (Nat.le_of_ble_eq_true rfl) d_Mo_divides_111 [] rfl ?_
  refine g_aload_n (pc := 114) C d_Mo_divides_114 rfl 2 rfl ?_
  refine g_iconst (pc := 115) C (0 : Int32) d_Mo_divides_115 (by decide) ?_
  refine g_put (pc := 116) (I' := up2 I a0 8 (0 : Int32)) (J' := J9) (N' := N) (k := 8) C gcX11 inX11 tyX11_ok nmX11 (by decide) fl_Mo_175 rfl ha0 (tyX11_ok 8 (by decide)) rfl rfl (Nat.le_of_ble_eq_true rfl) gs_11_8 (fun b hb => up2_of hb) (fun _ _ => rfl) (fun _ _ => rfl) d_Mo_divides_116 ?_
  obtain ⟨I11, eI11, h⟩ := o_bd h
  rw [← eI11]
  refine g_iconst (pc := 119) C (0 : Int32) d_Mo_divides_119 (by decide) ?_
  refine g_istore (pc := 120) (lv' := [(7, .int (0 : Int32)), (5, .long r7), (3, .long r3), (0, .ref (ad a0)), (1, .int p1), (2, .int x2)]) C d_Mo_divides_120 (by decide) rfl ?_
  refine g_lv [3, 4, 5, 0] rfl ?_
  exact w_Mo_divides_122 C ha0 _ _ _ _ _ h
set_option maxRecDepth 20000 in
theorem w_Mo_divides_78 {X : HX} {ad : Nat → Nat} {I : HI} {J : HJ} {N : HN} {r : HI × HJ × Int32} {a0 : Nat} {p1 : Int32} {s0 : Int32} (C : Cx X c_Mo_divides RX11 9 (some .int) rm_Mo_divides) (ha0 : gk Tm nM a0 (0, 11))
    (h : Mo_divides_78 N a0 p1 I J s0 = some r) : G Tm X ad nM 0 0 I J N (gE X Tm ad nM (r.1, r.2.1, N, fun _ => some (.int r.2.2))) 78 9 [(0, .ref (ad a0)), (1, .int p1)] [.int s0] := by
  refine g_istore_n (pc := 78) (lv' := [(2, .int s0), (0, .ref (ad a0)), (1, .int p1)]) C d_Mo_divides_78 rfl (by decide) rfl ?_
  refine g_iload_n (pc := 79) C d_Mo_divides_79 rfl 0 rfl ?_
  refine g_iconst (pc := 80) C (1 : Int32) d_Mo_divides_80 (by decide) ?_
  refine g_icmp_ne (pc := 81) C 88 d_Mo_divides_81 rfl (fun e1 => ?_) (fun e1 => ?_)
  · have h := o_neg e1 h
    refine g_lv [1, 2, 0] rfl ?_
    exact w_Mo_divides_88 C ha0 h
  · have h := o_pos e1 h
    refine g_aload_n (pc := 84) C d_Mo_divides_84 rfl 1 rfl ?_
    obtain ⟨J2, hc3, h⟩ := o_bn1 h
    refine g_V (pc := 85) (rest := []) C (k_Mo_swaps (xl X) ha0 hc3) sm_Mo_swaps ml_Mo_188 im_Mo_swaps se_Mo_swaps gcX11 rfl ha0 ⟨rfl, rfl, Nat.le_of_ble_eq_true rfl, Nat.le_of_ble_eq_true rfl⟩ ⟨Nat.zero_le _, Nat.zero_le _⟩ rfl rfl (Nat.le_of_ble_eq_true rfl) d_Mo_divides_85 [] rfl ?_
    refine g_lv [1, 2, 0] rfl ?_
    exact w_Mo_divides_88 C ha0 h
set_option maxRecDepth 20000 in
theorem w_Mo_divides_20 {X : HX} {ad : Nat → Nat} {I : HI} {J : HJ} {N : HN} {r : HI × HJ × Int32} {k2 : HI → HJ → Int32 → Option (HI × HJ × Int32)} {a0 : Nat} {p1 : Int32} {x2 : Int32} {s0 : Int32} (C : Cx X c_Mo_divides RX11 9 (some .int) rm_Mo_divides) (ha0 : gk Tm nM a0 (0, 11))
    (hk2 : ∀ (I : HI) (J : HJ) (x2 : Int32), k2 I J x2 = some r → G Tm X ad nM 0 0 I J N (gE X Tm ad nM (r.1, r.2.1, N, fun _ => some (.int r.2.2))) 2 9 [(0, .ref (ad a0)), (1, .int p1), (2, .int x2)] [])
    (h : Mo_divides_20 N a0 p1 k2 I J x2 s0 = some r) : G Tm X ad nM 0 0 I J N (gE X Tm ad nM (r.1, r.2.1, N, fun _ => some (.int r.2.2))) 20 9 [(0, .ref (ad a0)), (1, .int p1), (2, .int x2)] [.int s0] := by
  refine g_istore_n (pc := 20) (lv' := [(3, .int s0), (0, .ref (ad a0)), (1, .int p1), (2, .int x2)]) C d_Mo_divides_20 rfl (by decide) rfl ?_
  refine g_aload_n (pc := 21) C d_Mo_divides_21 rfl 1 rfl ?_
  obtain ⟨b1, hnb1, hb1, h⟩ := o_ra h
  refine g_get (pc := 22) (k := 11) (v := va_rf ((N a0 11).map ad)) C gcX11 inX11 (by decide) fl_Mo_29 ha0 rfl d_Mo_divides_22 ?_
  refine g_top (g_rf hnb1) ?_
  refine g_iload_n (pc := 25) C d_Mo_divides_25 rfl 3 rfl ?_
  refine g_aload_n (pc := 26) C d_Mo_divides_26 rfl 1 rfl ?_
  obtain ⟨b2, hnb2, hb2, h⟩ := o_ra h
  refine g_get (pc := 27) (k := 4) (v := va_rf ((N a0 4).map ad)) C gcX11 inX11 (by decide) fl_Mo_20 ha0 rfl d_Mo_divides_27 ?_
  refine g_top (g_rf hnb2) ?_
  refine g_iload_n (pc := 30) C d_Mo_divides_30 rfl 0 rfl ?_
  obtain ⟨hi3, h⟩ := o_gd h
  refine g_iald (pc := 31) C hb2 hi3 d_Mo_divides_31 ?_
  refine g_i2l (pc := 32) C d_Mo_divides_32 ?_
  obtain ⟨hi4, h⟩ := o_gd h
  refine g_last (pc := 33) C hb1 hi4 d_Mo_divides_33 ?_
  obtain ⟨J5, eJ5, h⟩ := o_bd h
  rw [← eJ5]
  refine g_aload_n (pc := 34) C d_Mo_divides_34 rfl 1 rfl ?_
  obtain ⟨b6, hnb6, hb6, h⟩ := o_ra h
  refine g_get (pc := 35) (k := 12) (v := va_rf ((N a0 12).map ad)) C gcX11 inX11 (by decide) fl_Mo_32 ha0 rfl d_Mo_divides_35 ?_
  refine g_top (g_rf hnb6) ?_
  refine g_iload_n (pc := 38) C d_Mo_divides_38 rfl 3 rfl ?_
  refine g_aload_n (pc := 39) C d_Mo_divides_39 rfl 1 rfl ?_
  obtain ⟨b7, hnb7, hb7, h⟩ := o_ra h
  refine g_get (pc := 40) (k := 4) (v := va_rf ((N a0 4).map ad)) C gcX11 inX11 (by decide) fl_Mo_20 ha0 rfl d_Mo_divides_40 ?_
  refine g_top (g_rf hnb7) ?_
  refine g_bipush (pc := 43) C (7 : Int32) d_Mo_divides_43 (by decide) ?_
  refine g_iload_n (pc := 45) C d_Mo_divides_45 rfl 0 rfl ?_
  refine g_iadd (pc := 46) C d_Mo_divides_46 ?_
  obtain ⟨hi8, h⟩ := o_gd h
  refine g_iald (pc := 47) C hb7 hi8 d_Mo_divides_47 ?_
  refine g_i2l (pc := 48) C d_Mo_divides_48 ?_
  obtain ⟨hi9, h⟩ := o_gd h
  refine g_last (pc := 49) C hb6 hi9 d_Mo_divides_49 ?_
  obtain ⟨J10, eJ10, h⟩ := o_bd h
  rw [← eJ10]
  refine g_iinc (pc := 50) (q := 3) (lv' := [(2, .int (x2 + 1)), (3, .int s0), (0, .ref (ad a0)), (1, .int p1)]) C d_Mo_divides_50 rfl rfl (by decide) rfl ?_
  refine g_goto (pc := 53) C 2 d_Mo_divides_53 rfl ?_
  refine g_lv [2, 3, 0] rfl ?_
  exact hk2 _ _ _ h
set_option maxRecDepth 20000 in
theorem w_Mo_divides_2b {X : HX} {ad : Nat → Nat} {I : HI} {J : HJ} {N : HN} {r : HI × HJ × Int32} {k2 : HI → HJ → Int32 → Option (HI × HJ × Int32)} {a0 : Nat} {p1 : Int32} {x2 : Int32} (C : Cx X c_Mo_divides RX11 9 (some .int) rm_Mo_divides) (ha0 : gk Tm nM a0 (0, 11))
    (hk2 : ∀ (I : HI) (J : HJ) (x2 : Int32), k2 I J x2 = some r → G Tm X ad nM 0 0 I J N (gE X Tm ad nM (r.1, r.2.1, N, fun _ => some (.int r.2.2))) 2 9 [(0, .ref (ad a0)), (1, .int p1), (2, .int x2)] [])
    (h : Mo_divides_2b N a0 p1 k2 I J x2 = some r) : G Tm X ad nM 0 0 I J N (gE X Tm ad nM (r.1, r.2.1, N, fun _ => some (.int r.2.2))) 2 9 [(0, .ref (ad a0)), (1, .int p1), (2, .int x2)] [] := by
  refine g_iload_n (pc := 2) C d_Mo_divides_2 rfl 2 rfl ?_
  refine g_bipush (pc := 3) C (7 : Int32) d_Mo_divides_3 (by decide) ?_
  refine g_icmp_ge (pc := 5) C 56 d_Mo_divides_5 rfl (fun e1 => ?_) (fun e1 => ?_)
  · have h := o_pos e1 h
    refine g_aload_n (pc := 56) C d_Mo_divides_56 rfl 0 rfl ?_
    obtain ⟨b2, hnb2, hb2, h⟩ := o_ra h
    refine g_get (pc := 57) (k := 11) (v := va_rf ((N a0 11).map ad)) C gcX11 inX11 (by decide) fl_Mo_29 ha0 rfl d_Mo_divides_57 ?_
    refine g_top (g_rf hnb2) ?_
    obtain ⟨r3, hc4, h⟩ := o_bn1 h
    refine g_S (pc := 60) (rest := []) C (k_Mo_top (xl X) hb2 hc4) sm_Mo_top ml_Mo_184 st_Mo_top ⟨rfl, rfl, Nat.le_of_ble_eq_true rfl, Nat.le_of_ble_eq_true rfl⟩ ⟨Nat.zero_le _, Nat.zero_le _⟩ rfl rfl (Nat.le_of_ble_eq_true rfl) d_Mo_divides_60 [.int r3] rfl ?_
    refine g_aload_n (pc := 63) C d_Mo_divides_63 rfl 0 rfl ?_
    obtain ⟨b5, hnb5, hb5, h⟩ := o_ra h
    refine g_get (pc := 64) (k := 12) (v := va_rf ((N a0 12).map ad)) C gcX11 inX11 (by decide) fl_Mo_32 ha0 rfl d_Mo_divides_64 ?_
    refine g_top (g_rf hnb5) ?_
    obtain ⟨r6, hc7, h⟩ := o_bn1 h
    refine g_S (pc := 67) (rest := [.int r3]) C (k_Mo_top (xl X) hb5 hc7) sm_Mo_top ml_Mo_184 st_Mo_top ⟨rfl, rfl, Nat.le_of_ble_eq_true rfl, Nat.le_of_ble_eq_true rfl⟩ ⟨Nat.zero_le _, Nat.zero_le _⟩ rfl rfl (Nat.le_of_ble_eq_true rfl) d_Mo_divides_67 [.int r6, .int r3] rfl ?_
    refine g_icmp_le (pc := 70) C 77 d_Mo_divides_70 rfl (fun e8 => ?_) (fun e8 => ?_)
    · have h := o_pos e8 h
      refine g_iconst (pc := 77) C (1 : Int32) d_Mo_divides_77 (by decide) ?_
      refine g_lv [0, 1] rfl ?_
      exact w_Mo_divides_78 C ha0 h
    · have h := o_neg e8 h
      refine g_iconst (pc := 73) C (0 : Int32) d_Mo_divides_73 (by decide) ?_
      refine g_goto (pc := 74) C 78 d_Mo_divides_74 rfl ?_
      refine g_lv [0, 1] rfl ?_
      exact w_Mo_divides_78 C ha0 h
  · have h := o_neg e1 h
    refine g_iload_n (pc := 8) C d_Mo_divides_8 rfl 1 rfl ?_
    refine g_if_ne (pc := 9) C 16 d_Mo_divides_9 rfl (fun e9 => ?_) (fun e9 => ?_)
    · have h := o_neg e9 h
      refine g_bipush (pc := 16) C (6 : Int32) d_Mo_divides_16 (by decide) ?_
      refine g_iload_n (pc := 18) C d_Mo_divides_18 rfl 2 rfl ?_
      refine g_isub (pc := 19) C d_Mo_divides_19 ?_
      refine g_lv [0, 1, 2] rfl ?_
      exact w_Mo_divides_20 C ha0 hk2 h
    · have h := o_pos e9 h
      refine g_iload_n (pc := 12) C d_Mo_divides_12 rfl 2 rfl ?_
      refine g_goto (pc := 13) C 20 d_Mo_divides_13 rfl ?_
      refine g_lv [0, 1, 2] rfl ?_
      exact w_Mo_divides_20 C ha0 hk2 h
set_option maxRecDepth 20000 in
theorem w_Mo_divides_2 {X : HX} {ad : Nat → Nat} {N : HN} {r : HI × HJ × Int32} {a0 : Nat} {p1 : Int32} (C : Cx X c_Mo_divides RX11 9 (some .int) rm_Mo_divides) (ha0 : gk Tm nM a0 (0, 11)) : ∀ (n : Nat) (I : HI) (J : HJ) (x2 : Int32), Mo_divides_2 N a0 p1 n I J x2 = some r → G Tm X ad nM 0 0 I J N (gE X Tm ad nM (r.1, r.2.1, N, fun _ => some (.int r.2.2))) 2 9 [(0, .ref (ad a0)), (1, .int p1), (2, .int x2)] [] := by
  intro n
  induction n with
  | zero => intro I J x2 h; cases h
  | succ n ih => intro I J x2 h; exact w_Mo_divides_2b C ha0 ih h
set_option maxRecDepth 20000 in
theorem w_Mo_divides_0 {X : HX} {ad : Nat → Nat} {I : HI} {J : HJ} {N : HN} {r : HI × HJ × Int32} {a0 : Nat} {p1 : Int32} (C : Cx X c_Mo_divides RX11 9 (some .int) rm_Mo_divides) (ha0 : gk Tm nM a0 (0, 11))
    (h : Mo_divides_0 N a0 p1 I J = some r) : G Tm X ad nM 0 0 I J N (gE X Tm ad nM (r.1, r.2.1, N, fun _ => some (.int r.2.2))) 0 9 [(0, .ref (ad a0)), (1, .int p1)] [] := by
  refine g_iconst (pc := 0) C (0 : Int32) d_Mo_divides_0 (by decide) ?_
  refine g_istore_n (pc := 1) (lv' := [(2, .int (0 : Int32)), (0, .ref (ad a0)), (1, .int p1)]) C d_Mo_divides_1 rfl (by decide) rfl ?_
  refine g_lv [1, 2, 0] rfl ?_
  exact w_Mo_divides_2 C ha0 _ _ _ _ h
set_option maxRecDepth 20000 in
theorem k_Mo_divides (l : Launch) {I : HI} {J : HJ} {N : HN} {a0 : Nat} {p1 : Int32} {r : HI × HJ × Int32} (ha0 : gk Tm nM a0 (0, 11)) (h : Mo_divides N a0 p1 I J = some r) : gM l y_Mo_divides c_Mo_divides 9 (some .int) rm_Mo_divides Tm nM I J N (fun ad => [.ref (ad a0), .int p1]) (r.1, r.2.1, N, fun _ => some (.int r.2.2)) :=
  g_meth (lv := fun ad => [(0, .ref (ad a0)), (1, .int p1)]) (by decide) (fun _ => Nat.le_of_ble_eq_true rfl) (fun _ => rfl) (fun X ad C => g_lv [0, 1] rfl (w_Mo_divides_0 C ha0 h))
theorem d_Mo_squares_0 : decode c_Mo_squares 0 = .ok (.iconst 0, 1) := by decide +kernel
theorem d_Mo_squares_1 : decode c_Mo_squares 1 = .ok (.istore 4, 2) := by decide +kernel
theorem d_Mo_squares_3 : decode c_Mo_squares 3 = .ok (.iload 4, 2) := by decide +kernel
theorem d_Mo_squares_5 : decode c_Mo_squares 5 = .ok (.bipush 7, 2) := by decide +kernel
theorem d_Mo_squares_7 : decode c_Mo_squares 7 = .ok (.if_icmp .ge 14, 3) := by decide +kernel
theorem d_Mo_squares_10 : decode c_Mo_squares 10 = .ok (.aload_n 3, 1) := by decide +kernel
theorem d_Mo_squares_11 : decode c_Mo_squares 11 = .ok (.iload 4, 2) := by decide +kernel
theorem d_Mo_squares_13 : decode c_Mo_squares 13 = .ok (.lconst 0, 1) := by decide +kernel
theorem d_Mo_squares_14 : decode c_Mo_squares 14 = .ok (.lastore, 1) := by decide +kernel
theorem d_Mo_squares_15 : decode c_Mo_squares 15 = .ok (.iinc 4 1, 3) := by decide +kernel
theorem d_Mo_squares_18 : decode c_Mo_squares 18 = .ok (.goto (-15), 3) := by decide +kernel
theorem d_Mo_squares_21 : decode c_Mo_squares 21 = .ok (.iconst 0, 1) := by decide +kernel
theorem d_Mo_squares_22 : decode c_Mo_squares 22 = .ok (.istore 4, 2) := by decide +kernel
theorem d_Mo_squares_24 : decode c_Mo_squares 24 = .ok (.iload 4, 2) := by decide +kernel
theorem d_Mo_squares_26 : decode c_Mo_squares 26 = .ok (.bipush 7, 2) := by decide +kernel
theorem d_Mo_squares_28 : decode c_Mo_squares 28 = .ok (.if_icmp .ge 62, 3) := by decide +kernel
theorem d_Mo_squares_31 : decode c_Mo_squares 31 = .ok (.iload 4, 2) := by decide +kernel
theorem d_Mo_squares_33 : decode c_Mo_squares 33 = .ok (.iconst 2, 1) := by decide +kernel
theorem d_Mo_squares_34 : decode c_Mo_squares 34 = .ok (.irem, 1) := by decide +kernel
theorem d_Mo_squares_35 : decode c_Mo_squares 35 = .ok (.ifCond .ne 10, 3) := by decide +kernel
theorem d_Mo_squares_38 : decode c_Mo_squares 38 = .ok (.iload 4, 2) := by decide +kernel
theorem d_Mo_squares_40 : decode c_Mo_squares 40 = .ok (.iconst 2, 1) := by decide +kernel
theorem d_Mo_squares_41 : decode c_Mo_squares 41 = .ok (.idiv, 1) := by decide +kernel
theorem d_Mo_squares_42 : decode c_Mo_squares 42 = .ok (.goto 20, 3) := by decide +kernel
theorem d_Mo_squares_45 : decode c_Mo_squares 45 = .ok (.iload_n 2, 1) := by decide +kernel
theorem d_Mo_squares_46 : decode c_Mo_squares 46 = .ok (.ifCond .eq 12, 3) := by decide +kernel
theorem d_Mo_squares_49 : decode c_Mo_squares 49 = .ok (.iload 4, 2) := by decide +kernel
theorem d_Mo_squares_51 : decode c_Mo_squares 51 = .ok (.iconst 1, 1) := by decide +kernel
theorem d_Mo_squares_52 : decode c_Mo_squares 52 = .ok (.iadd, 1) := by decide +kernel
theorem d_Mo_squares_53 : decode c_Mo_squares 53 = .ok (.iconst 2, 1) := by decide +kernel
theorem d_Mo_squares_54 : decode c_Mo_squares 54 = .ok (.idiv, 1) := by decide +kernel
theorem d_Mo_squares_55 : decode c_Mo_squares 55 = .ok (.goto 7, 3) := by decide +kernel
theorem d_Mo_squares_58 : decode c_Mo_squares 58 = .ok (.iload 4, 2) := by decide +kernel
theorem d_Mo_squares_60 : decode c_Mo_squares 60 = .ok (.iconst 2, 1) := by decide +kernel
theorem d_Mo_squares_61 : decode c_Mo_squares 61 = .ok (.idiv, 1) := by decide +kernel
theorem d_Mo_squares_62 : decode c_Mo_squares 62 = .ok (.istore 5, 2) := by decide +kernel
theorem d_Mo_squares_64 : decode c_Mo_squares 64 = .ok (.aload_n 3, 1) := by decide +kernel
theorem d_Mo_squares_65 : decode c_Mo_squares 65 = .ok (.iload 5, 2) := by decide +kernel
theorem d_Mo_squares_67 : decode c_Mo_squares 67 = .ok (.dup2, 1) := by decide +kernel
theorem d_Mo_squares_68 : decode c_Mo_squares 68 = .ok (.laload, 1) := by decide +kernel
theorem d_Mo_squares_69 : decode c_Mo_squares 69 = .ok (.aload_n 0, 1) := by decide +kernel
theorem d_Mo_squares_70 : decode c_Mo_squares 70 = .ok (.getfield 20, 3) := by decide +kernel
theorem d_Mo_squares_73 : decode c_Mo_squares 73 = .ok (.bipush 7, 2) := by decide +kernel
theorem d_Mo_squares_75 : decode c_Mo_squares 75 = .ok (.iload_n 1, 1) := by decide +kernel
theorem d_Mo_squares_76 : decode c_Mo_squares 76 = .ok (.imul, 1) := by decide +kernel
theorem d_Mo_squares_77 : decode c_Mo_squares 77 = .ok (.iload 4, 2) := by decide +kernel
theorem d_Mo_squares_79 : decode c_Mo_squares 79 = .ok (.iadd, 1) := by decide +kernel
theorem d_Mo_squares_80 : decode c_Mo_squares 80 = .ok (.iaload, 1) := by decide +kernel
theorem d_Mo_squares_81 : decode c_Mo_squares 81 = .ok (.i2l, 1) := by decide +kernel
theorem d_Mo_squares_82 : decode c_Mo_squares 82 = .ok (.ladd, 1) := by decide +kernel
theorem d_Mo_squares_83 : decode c_Mo_squares 83 = .ok (.lastore, 1) := by decide +kernel
theorem d_Mo_squares_84 : decode c_Mo_squares 84 = .ok (.iinc 4 1, 3) := by decide +kernel
theorem d_Mo_squares_87 : decode c_Mo_squares 87 = .ok (.goto (-63), 3) := by decide +kernel
theorem d_Mo_squares_90 : decode c_Mo_squares 90 = .ok (.return_, 1) := by decide +kernel
set_option maxRecDepth 20000 in
theorem w_Mo_squares_62 {X : HX} {ad : Nat → Nat} {I : HI} {J : HJ} {N : HN} {r : HJ} {k24 : HJ → Int32 → Option (HJ)} {a0 : Nat} {p1 : Int32} {p2 : Int32} {a3 : Nat} {x4 : Int32} {s0 : Int32} (C : Cx X c_Mo_squares RX11 6 none rm_Mo_squares) (ha0 : gk Tm nM a0 (0, 11)) (ha3 : ga Tm nM a3 2)
    (hk24 : ∀ (J : HJ) (x4 : Int32), k24 J x4 = some r → G Tm X ad nM 0 0 I J N (gE X Tm ad nM (I, r, N, fun _ => none)) 24 6 [(0, .ref (ad a0)), (1, .int p1), (2, .int p2), (3, .ref (ad a3)), (4, .int x4)] [])
    (h : Mo_squares_62 I N a0 p1 p2 a3 k24 J x4 s0 = some r) : G Tm X ad nM 0 0 I J N (gE X Tm ad nM (I, r, N, fun _ => none)) 62 6 [(0, .ref (ad a0)), (1, .int p1), (2, .int p2), (3, .ref (ad a3)), (4, .int x4)] [.int s0] := by
  refine g_istore (pc := 62) (lv' := [(5, .int s0), (0, .ref (ad a0)), (1, .int p1), (2, .int p2), (3, .ref (ad a3)), (4, .int x4)]) C d_Mo_squares_62 (by decide) rfl ?_
  refine g_aload_n (pc := 64) C d_Mo_squares_64 rfl 4 rfl ?_
  refine g_iload (pc := 65) C d_Mo_squares_65 0 rfl ?_
  refine g_dup2 (pc := 67) C d_Mo_squares_67 rfl rfl ?_
  obtain ⟨hi1, h⟩ := o_gd h
  refine g_lald (pc := 68) C ha3 hi1 d_Mo_squares_68 ?_
  refine g_aload_n (pc := 69) C d_Mo_squares_69 rfl 1 rfl ?_
  obtain ⟨b2, hnb2, hb2, h⟩ := o_ra h
  refine g_get (pc := 70) (k := 4) (v := va_rf ((N a0 4).map ad)) C gcX11 inX11 (by decide) fl_Mo_20 ha0 rfl d_Mo_squares_70 ?_
  refine g_top (g_rf hnb2) ?_
  refine g_bipush (pc := 73) C (7 : Int32) d_Mo_squares_73 (by decide) ?_
  refine g_iload_n (pc := 75) C d_Mo_squares_75 rfl 2 rfl ?_
  refine g_imul (pc := 76) C d_Mo_squares_76 ?_
  refine g_iload (pc := 77) C d_Mo_squares_77 5 rfl ?_
  refine g_iadd (pc := 79) C d_Mo_squares_79 ?_
  obtain ⟨hi3, h⟩ := o_gd h
  refine g_iald (pc := 80) C hb2 hi3 d_Mo_squares_80 ?_
  refine g_i2l (pc := 81) C d_Mo_squares_81 ?_
  refine g_ladd (pc := 82) C d_Mo_squares_82 ?_
  obtain ⟨hi4, h⟩ := o_gd h
  refine g_last (pc := 83) C ha3 hi4 d_Mo_squares_83 ?_
  obtain ⟨J5, eJ5, h⟩ := o_bd h
  rw [← eJ5]
  refine g_iinc (pc := 84) (q := 5) (lv' := [(4, .int (x4 + 1)), (5, .int s0), (0, .ref (ad a0)), (1, .int p1), (2, .int p2), (3, .ref (ad a3))]) C d_Mo_squares_84 rfl rfl (by decide) rfl ?_
  refine g_goto (pc := 87) C 24 d_Mo_squares_87 rfl ?_
  refine g_lv [2, 3, 4, 5, 0] rfl ?_
  exact hk24 _ _ h
set_option maxRecDepth 20000 in
theorem w_Mo_squares_24b {X : HX} {ad : Nat → Nat} {I : HI} {J : HJ} {N : HN} {r : HJ} {k24 : HJ → Int32 → Option (HJ)} {a0 : Nat} {p1 : Int32} {p2 : Int32} {a3 : Nat} {x4 : Int32} (C : Cx X c_Mo_squares RX11 6 none rm_Mo_squares) (ha0 : gk Tm nM a0 (0, 11)) (ha3 : ga Tm nM a3 2)
    (hk24 : ∀ (J : HJ) (x4 : Int32), k24 J x4 = some r → G Tm X ad nM 0 0 I J N (gE X Tm ad nM (I, r, N, fun _ => none)) 24 6 [(0, .ref (ad a0)), (1, .int p1), (2, .int p2), (3, .ref (ad a3)), (4, .int x4)] [])
    (h : Mo_squares_24b I N a0 p1 p2 a3 k24 J x4 = some r) : G Tm X ad nM 0 0 I J N (gE X Tm ad nM (I, r, N, fun _ => none)) 24 6 [(0, .ref (ad a0)), (1, .int p1), (2, .int p2), (3, .ref (ad a3)), (4, .int x4)] [] := by
  refine g_iload (pc := 24) C d_Mo_squares_24 4 rfl ?_
  refine g_bipush (pc := 26) C (7 : Int32) d_Mo_squares_26 (by decide) ?_
  refine g_icmp_ge (pc := 28) C 90 d_Mo_squares_28 rfl (fun e1 => ?_) (fun e1 => ?_)
  · have h := o_pos e1 h
    obtain rfl := o_ret h
    exact g_vret (pc := 90) C d_Mo_squares_90
  · have h := o_neg e1 h
    refine g_iload (pc := 31) C d_Mo_squares_31 4 rfl ?_
    refine g_iconst (pc := 33) C (2 : Int32) d_Mo_squares_33 (by decide) ?_
    refine g_irem (pc := 34) C d_Mo_squares_34 (by decide) ?_
    refine g_if_ne (pc := 35) C 45 d_Mo_squares_35 rfl (fun e2 => ?_) (fun e2 => ?_)
    · have h := o_neg e2 h
      refine g_iload_n (pc := 45) C d_Mo_squares_45 rfl 2 rfl ?_
      refine g_if_eq (pc := 46) C 58 d_Mo_squares_46 rfl (fun e3 => ?_) (fun e3 => ?_)
      · have h := o_pos e3 h
        refine g_iload (pc := 58) C d_Mo_squares_58 4 rfl ?_
        refine g_iconst (pc := 60) C (2 : Int32) d_Mo_squares_60 (by decide) ?_
        refine g_idiv (pc := 61) C d_Mo_squares_61 (by decide) ?_
        refine g_lv [0, 1, 2, 3, 4] rfl ?_
        exact w_Mo_squares_62 C ha0 ha3 hk24 h
      · have h := o_neg e3 h
        refine g_iload (pc := 49) C d_Mo_squares_49 4 rfl ?_
        refine g_iconst (pc := 51) C (1 : Int32) d_Mo_squares_51 (by decide) ?_
        refine g_iadd (pc := 52) C d_Mo_squares_52 ?_
        refine g_iconst (pc := 53) C (2 : Int32) d_Mo_squares_53 (by decide) ?_
        refine g_idiv (pc := 54) C d_Mo_squares_54 (by decide) ?_
        refine g_goto (pc := 55) C 62 d_Mo_squares_55 rfl ?_
        refine g_lv [0, 1, 2, 3, 4] rfl ?_
        exact w_Mo_squares_62 C ha0 ha3 hk24 h
    · have h := o_pos e2 h
      refine g_iload (pc := 38) C d_Mo_squares_38 4 rfl ?_
      refine g_iconst (pc := 40) C (2 : Int32) d_Mo_squares_40 (by decide) ?_
      refine g_idiv (pc := 41) C d_Mo_squares_41 (by decide) ?_
      refine g_goto (pc := 42) C 62 d_Mo_squares_42 rfl ?_
      refine g_lv [0, 1, 2, 3, 4] rfl ?_
      exact w_Mo_squares_62 C ha0 ha3 hk24 h
set_option maxRecDepth 20000 in
theorem w_Mo_squares_24 {X : HX} {ad : Nat → Nat} {I : HI} {N : HN} {r : HJ} {a0 : Nat} {p1 : Int32} {p2 : Int32} {a3 : Nat} (C : Cx X c_Mo_squares RX11 6 none rm_Mo_squares) (ha0 : gk Tm nM a0 (0, 11)) (ha3 : ga Tm nM a3 2) : ∀ (n : Nat) (J : HJ) (x4 : Int32), Mo_squares_24 I N a0 p1 p2 a3 n J x4 = some r → G Tm X ad nM 0 0 I J N (gE X Tm ad nM (I, r, N, fun _ => none)) 24 6 [(0, .ref (ad a0)), (1, .int p1), (2, .int p2), (3, .ref (ad a3)), (4, .int x4)] [] := by
  intro n
  induction n with
  | zero => intro J x4 h; cases h
  | succ n ih => intro J x4 h; exact w_Mo_squares_24b C ha0 ha3 ih h
set_option maxRecDepth 20000 in
theorem w_Mo_squares_3b {X : HX} {ad : Nat → Nat} {I : HI} {J : HJ} {N : HN} {r : HJ} {k3 : HJ → Int32 → Option (HJ)} {a0 : Nat} {p1 : Int32} {p2 : Int32} {a3 : Nat} {x4 : Int32} (C : Cx X c_Mo_squares RX11 6 none rm_Mo_squares) (ha0 : gk Tm nM a0 (0, 11)) (ha3 : ga Tm nM a3 2)
    (hk3 : ∀ (J : HJ) (x4 : Int32), k3 J x4 = some r → G Tm X ad nM 0 0 I J N (gE X Tm ad nM (I, r, N, fun _ => none)) 3 6 [(0, .ref (ad a0)), (1, .int p1), (2, .int p2), (3, .ref (ad a3)), (4, .int x4)] [])
    (h : Mo_squares_3b I N a0 p1 p2 a3 k3 J x4 = some r) : G Tm X ad nM 0 0 I J N (gE X Tm ad nM (I, r, N, fun _ => none)) 3 6 [(0, .ref (ad a0)), (1, .int p1), (2, .int p2), (3, .ref (ad a3)), (4, .int x4)] [] := by
  refine g_iload (pc := 3) C d_Mo_squares_3 4 rfl ?_
  refine g_bipush (pc := 5) C (7 : Int32) d_Mo_squares_5 (by decide) ?_
  refine g_icmp_ge (pc := 7) C 21 d_Mo_squares_7 rfl (fun e1 => ?_) (fun e1 => ?_)
  · have h := o_pos e1 h
    refine g_iconst (pc := 21) C (0 : Int32) d_Mo_squares_21 (by decide) ?_
    refine g_istore (pc := 22) (lv' := [(4, .int (0 : Int32)), (0, .ref (ad a0)), (1, .int p1), (2, .int p2), (3, .ref (ad a3))]) C d_Mo_squares_22 (by decide) rfl ?_
    refine g_lv [1, 2, 3, 4, 0] rfl ?_
    exact w_Mo_squares_24 C ha0 ha3 _ _ _ h
  · have h := o_neg e1 h
    refine g_aload_n (pc := 10) C d_Mo_squares_10 rfl 3 rfl ?_
    refine g_iload (pc := 11) C d_Mo_squares_11 4 rfl ?_
    refine g_lconst (pc := 13) C (0 : Int64) d_Mo_squares_13 (by decide) ?_
    obtain ⟨hi2, h⟩ := o_gd h
    refine g_last (pc := 14) C ha3 hi2 d_Mo_squares_14 ?_
    obtain ⟨J3, eJ3, h⟩ := o_bd h
    rw [← eJ3]
    refine g_iinc (pc := 15) (q := 4) (lv' := [(4, .int (x4 + 1)), (0, .ref (ad a0)), (1, .int p1), (2, .int p2), (3, .ref (ad a3))]) C d_Mo_squares_15 rfl rfl (by decide) rfl ?_
    refine g_goto (pc := 18) C 3 d_Mo_squares_18 rfl ?_
    refine g_lv [1, 2, 3, 4, 0] rfl ?_
    exact hk3 _ _ h
set_option maxRecDepth 20000 in
theorem w_Mo_squares_3 {X : HX} {ad : Nat → Nat} {I : HI} {N : HN} {r : HJ} {a0 : Nat} {p1 : Int32} {p2 : Int32} {a3 : Nat} (C : Cx X c_Mo_squares RX11 6 none rm_Mo_squares) (ha0 : gk Tm nM a0 (0, 11)) (ha3 : ga Tm nM a3 2) : ∀ (n : Nat) (J : HJ) (x4 : Int32), Mo_squares_3 I N a0 p1 p2 a3 n J x4 = some r → G Tm X ad nM 0 0 I J N (gE X Tm ad nM (I, r, N, fun _ => none)) 3 6 [(0, .ref (ad a0)), (1, .int p1), (2, .int p2), (3, .ref (ad a3)), (4, .int x4)] [] := by
  intro n
  induction n with
  | zero => intro J x4 h; cases h
  | succ n ih => intro J x4 h; exact w_Mo_squares_3b C ha0 ha3 ih h
set_option maxRecDepth 20000 in
theorem w_Mo_squares_0 {X : HX} {ad : Nat → Nat} {I : HI} {J : HJ} {N : HN} {r : HJ} {a0 : Nat} {p1 : Int32} {p2 : Int32} {a3 : Nat} (C : Cx X c_Mo_squares RX11 6 none rm_Mo_squares) (ha0 : gk Tm nM a0 (0, 11)) (ha3 : ga Tm nM a3 2)
    (h : Mo_squares_0 I N a0 p1 p2 a3 J = some r) : G Tm X ad nM 0 0 I J N (gE X Tm ad nM (I, r, N, fun _ => none)) 0 6 [(0, .ref (ad a0)), (1, .int p1), (2, .int p2), (3, .ref (ad a3))] [] := by
  refine g_iconst (pc := 0) C (0 : Int32) d_Mo_squares_0 (by decide) ?_
  refine g_istore (pc := 1) (lv' := [(4, .int (0 : Int32)), (0, .ref (ad a0)), (1, .int p1), (2, .int p2), (3, .ref (ad a3))]) C d_Mo_squares_1 (by decide) rfl ?_
  refine g_lv [1, 2, 3, 4, 0] rfl ?_
  exact w_Mo_squares_3 C ha0 ha3 _ _ _ h
set_option maxRecDepth 20000 in
theorem k_Mo_squares (l : Launch) {I : HI} {J : HJ} {N : HN} {a0 : Nat} {p1 : Int32} {p2 : Int32} {a3 : Nat} {r : HJ} (ha0 : gk Tm nM a0 (0, 11)) (ha3 : ga Tm nM a3 2) (h : Mo_squares I N a0 p1 p2 a3 J = some r) : gM l y_Mo_squares c_Mo_squares 6 none rm_Mo_squares Tm nM I J N (fun ad => [.ref (ad a0), .int p1, .int p2, .ref (ad a3)]) (I, r, N, fun _ => none) :=
  g_meth (lv := fun ad => [(0, .ref (ad a0)), (1, .int p1), (2, .int p2), (3, .ref (ad a3))]) (by decide) (fun _ => Nat.le_of_ble_eq_true rfl) (fun _ => rfl) (fun X ad C => g_lv [0, 1, 2, 3] rfl (w_Mo_squares_0 C ha0 ha3 h))
theorem d_Mo_downs_0 : decode c_Mo_downs 0 = .ok (.iconst 0, 1) := by decide +kernel
theorem d_Mo_downs_1 : decode c_Mo_downs 1 = .ok (.istore_n 1, 1) := by decide +kernel
theorem d_Mo_downs_2 : decode c_Mo_downs 2 = .ok (.iload_n 1, 1) := by decide +kernel
theorem d_Mo_downs_3 : decode c_Mo_downs 3 = .ok (.bipush 6, 2) := by decide +kernel
theorem d_Mo_downs_5 : decode c_Mo_downs 5 = .ok (.if_icmp .ge 17, 3) := by decide +kernel
theorem d_Mo_downs_8 : decode c_Mo_downs 8 = .ok (.aload_n 0, 1) := by decide +kernel
theorem d_Mo_downs_9 : decode c_Mo_downs 9 = .ok (.iload_n 1, 1) := by decide +kernel
theorem d_Mo_downs_10 : decode c_Mo_downs 10 = .ok (.aload_n 0, 1) := by decide +kernel
theorem d_Mo_downs_11 : decode c_Mo_downs 11 = .ok (.iload_n 1, 1) := by decide +kernel
theorem d_Mo_downs_12 : decode c_Mo_downs 12 = .ok (.iconst 1, 1) := by decide +kernel
theorem d_Mo_downs_13 : decode c_Mo_downs 13 = .ok (.iadd, 1) := by decide +kernel
theorem d_Mo_downs_14 : decode c_Mo_downs 14 = .ok (.laload, 1) := by decide +kernel
theorem d_Mo_downs_15 : decode c_Mo_downs 15 = .ok (.lastore, 1) := by decide +kernel
theorem d_Mo_downs_16 : decode c_Mo_downs 16 = .ok (.iinc 1 1, 3) := by decide +kernel
theorem d_Mo_downs_19 : decode c_Mo_downs 19 = .ok (.goto (-17), 3) := by decide +kernel
theorem d_Mo_downs_22 : decode c_Mo_downs 22 = .ok (.aload_n 0, 1) := by decide +kernel
theorem d_Mo_downs_23 : decode c_Mo_downs 23 = .ok (.bipush 6, 2) := by decide +kernel
theorem d_Mo_downs_25 : decode c_Mo_downs 25 = .ok (.lconst 0, 1) := by decide +kernel
theorem d_Mo_downs_26 : decode c_Mo_downs 26 = .ok (.lastore, 1) := by decide +kernel
theorem d_Mo_downs_27 : decode c_Mo_downs 27 = .ok (.return_, 1) := by decide +kernel
set_option maxRecDepth 20000 in
theorem w_Mo_downs_2b {X : HX} {ad : Nat → Nat} {I : HI} {J : HJ} {N : HN} {r : HJ} {k2 : HJ → Int32 → Option (HJ)} {a0 : Nat} {x1 : Int32} (C : Cx X c_Mo_downs RX11 2 none rm_Mo_downs) (ha0 : ga Tm nM a0 2)
    (hk2 : ∀ (J : HJ) (x1 : Int32), k2 J x1 = some r → G Tm X ad nM 0 0 I J N (gE X Tm ad nM (I, r, N, fun _ => none)) 2 2 [(0, .ref (ad a0)), (1, .int x1)] [])
    (h : Mo_downs_2b a0 k2 J x1 = some r) : G Tm X ad nM 0 0 I J N (gE X Tm ad nM (I, r, N, fun _ => none)) 2 2 [(0, .ref (ad a0)), (1, .int x1)] [] := by
  refine g_iload_n (pc := 2) C d_Mo_downs_2 rfl 1 rfl ?_
  refine g_bipush (pc := 3) C (6 : Int32) d_Mo_downs_3 (by decide) ?_
  refine g_icmp_ge (pc := 5) C 22 d_Mo_downs_5 rfl (fun e1 => ?_) (fun e1 => ?_)
  · have h := o_pos e1 h
    refine g_aload_n (pc := 22) C d_Mo_downs_22 rfl 0 rfl ?_
    refine g_bipush (pc := 23) C (6 : Int32) d_Mo_downs_23 (by decide) ?_
    refine g_lconst (pc := 25) C (0 : Int64) d_Mo_downs_25 (by decide) ?_
    obtain ⟨hi2, h⟩ := o_gd h
    refine g_last (pc := 26) C ha0 hi2 d_Mo_downs_26 ?_
    obtain ⟨J3, eJ3, h⟩ := o_bd h
    rw [← eJ3]
    obtain rfl := o_ret h
    exact g_vret (pc := 27) C d_Mo_downs_27
  · have h := o_neg e1 h
    refine g_aload_n (pc := 8) C d_Mo_downs_8 rfl 0 rfl ?_
    refine g_iload_n (pc := 9) C d_Mo_downs_9 rfl 1 rfl ?_
    refine g_aload_n (pc := 10) C d_Mo_downs_10 rfl 0 rfl ?_
    refine g_iload_n (pc := 11) C d_Mo_downs_11 rfl 1 rfl ?_
    refine g_iconst (pc := 12) C (1 : Int32) d_Mo_downs_12 (by decide) ?_
    refine g_iadd (pc := 13) C d_Mo_downs_13 ?_
    obtain ⟨hi4, h⟩ := o_gd h
    refine g_lald (pc := 14) C ha0 hi4 d_Mo_downs_14 ?_
    obtain ⟨hi5, h⟩ := o_gd h
    refine g_last (pc := 15) C ha0 hi5 d_Mo_downs_15 ?_
    obtain ⟨J6, eJ6, h⟩ := o_bd h
    rw [← eJ6]
    refine g_iinc (pc := 16) (q := 1) (lv' := [(1, .int (x1 + 1)), (0, .ref (ad a0))]) C d_Mo_downs_16 rfl rfl (by decide) rfl ?_
    refine g_goto (pc := 19) C 2 d_Mo_downs_19 rfl ?_
    refine g_lv [1, 0] rfl ?_
    exact hk2 _ _ h
set_option maxRecDepth 20000 in
theorem w_Mo_downs_2 {X : HX} {ad : Nat → Nat} {I : HI} {N : HN} {r : HJ} {a0 : Nat} (C : Cx X c_Mo_downs RX11 2 none rm_Mo_downs) (ha0 : ga Tm nM a0 2) : ∀ (n : Nat) (J : HJ) (x1 : Int32), Mo_downs_2 a0 n J x1 = some r → G Tm X ad nM 0 0 I J N (gE X Tm ad nM (I, r, N, fun _ => none)) 2 2 [(0, .ref (ad a0)), (1, .int x1)] [] := by
  intro n
  induction n with
  | zero => intro J x1 h; cases h
  | succ n ih => intro J x1 h; exact w_Mo_downs_2b C ha0 ih h
set_option maxRecDepth 20000 in
theorem w_Mo_downs_0 {X : HX} {ad : Nat → Nat} {I : HI} {J : HJ} {N : HN} {r : HJ} {a0 : Nat} (C : Cx X c_Mo_downs RX11 2 none rm_Mo_downs) (ha0 : ga Tm nM a0 2)
    (h : Mo_downs_0 a0 J = some r) : G Tm X ad nM 0 0 I J N (gE X Tm ad nM (I, r, N, fun _ => none)) 0 2 [(0, .ref (ad a0))] [] := by
  refine g_iconst (pc := 0) C (0 : Int32) d_Mo_downs_0 (by decide) ?_
  refine g_istore_n (pc := 1) (lv' := [(1, .int (0 : Int32)), (0, .ref (ad a0))]) C d_Mo_downs_1 rfl (by decide) rfl ?_
  refine g_lv [1, 0] rfl ?_
  exact w_Mo_downs_2 C ha0 _ _ _ h
set_option maxRecDepth 20000 in
theorem k_Mo_downs (l : Launch) {I : HI} {J : HJ} {N : HN} {a0 : Nat} {r : HJ} (ha0 : ga Tm nM a0 2) (h : Mo_downs a0 J = some r) : gM l y_Mo_downs c_Mo_downs 2 none rm_Mo_downs Tm nM I J N (fun ad => [.ref (ad a0)]) (I, r, N, fun _ => none) :=
  g_meth (lv := fun ad => [(0, .ref (ad a0))]) (by decide) (fun _ => Nat.le_of_ble_eq_true rfl) (fun _ => rfl) (fun X ad C => g_lv [0] rfl (w_Mo_downs_0 C ha0 h))
theorem d_Mo_valueAt_0 : decode c_Mo_valueAt 0 = .ok (.aload_n 0, 1) := by decide +kernel
theorem d_Mo_valueAt_1 : decode c_Mo_valueAt 1 = .ok (.invokestatic 184, 3) := by decide +kernel
theorem d_Mo_valueAt_4 : decode c_Mo_valueAt 4 = .ok (.istore 5, 2) := by decide +kernel
theorem d_Mo_valueAt_6 : decode c_Mo_valueAt 6 = .ok (.lconst 0, 1) := by decide +kernel
theorem d_Mo_valueAt_7 : decode c_Mo_valueAt 7 = .ok (.lstore 6, 2) := by decide +kernel
theorem d_Mo_valueAt_9 : decode c_Mo_valueAt 9 = .ok (.iconst 0, 1) := by decide +kernel
theorem d_Mo_valueAt_10 : decode c_Mo_valueAt 10 = .ok (.istore 8, 2) := by decide +kernel
theorem d_Mo_valueAt_12 : decode c_Mo_valueAt 12 = .ok (.iload 8, 2) := by decide +kernel
theorem d_Mo_valueAt_14 : decode c_Mo_valueAt 14 = .ok (.iload 5, 2) := by decide +kernel
theorem d_Mo_valueAt_16 : decode c_Mo_valueAt 16 = .ok (.if_icmp .gt 35, 3) := by decide +kernel
theorem d_Mo_valueAt_19 : decode c_Mo_valueAt 19 = .ok (.lload 6, 2) := by decide +kernel
theorem d_Mo_valueAt_21 : decode c_Mo_valueAt 21 = .ok (.aload_n 0, 1) := by decide +kernel
theorem d_Mo_valueAt_22 : decode c_Mo_valueAt 22 = .ok (.iload 8, 2) := by decide +kernel
theorem d_Mo_valueAt_24 : decode c_Mo_valueAt 24 = .ok (.laload, 1) := by decide +kernel
theorem d_Mo_valueAt_25 : decode c_Mo_valueAt 25 = .ok (.lload_n 1, 1) := by decide +kernel
theorem d_Mo_valueAt_26 : decode c_Mo_valueAt 26 = .ok (.iload 8, 2) := by decide +kernel
theorem d_Mo_valueAt_28 : decode c_Mo_valueAt 28 = .ok (.invokestatic 144, 3) := by decide +kernel
theorem d_Mo_valueAt_31 : decode c_Mo_valueAt 31 = .ok (.lmul, 1) := by decide +kernel
theorem d_Mo_valueAt_32 : decode c_Mo_valueAt 32 = .ok (.lload_n 3, 1) := by decide +kernel
theorem d_Mo_valueAt_33 : decode c_Mo_valueAt 33 = .ok (.iload 5, 2) := by decide +kernel
theorem d_Mo_valueAt_35 : decode c_Mo_valueAt 35 = .ok (.iload 8, 2) := by decide +kernel
theorem d_Mo_valueAt_37 : decode c_Mo_valueAt 37 = .ok (.isub, 1) := by decide +kernel
theorem d_Mo_valueAt_38 : decode c_Mo_valueAt 38 = .ok (.invokestatic 144, 3) := by decide +kernel
theorem d_Mo_valueAt_41 : decode c_Mo_valueAt 41 = .ok (.lmul, 1) := by decide +kernel
theorem d_Mo_valueAt_42 : decode c_Mo_valueAt 42 = .ok (.ladd, 1) := by decide +kernel
theorem d_Mo_valueAt_43 : decode c_Mo_valueAt 43 = .ok (.lstore 6, 2) := by decide +kernel
theorem d_Mo_valueAt_45 : decode c_Mo_valueAt 45 = .ok (.iinc 8 1, 3) := by decide +kernel
theorem d_Mo_valueAt_48 : decode c_Mo_valueAt 48 = .ok (.goto (-36), 3) := by decide +kernel
theorem d_Mo_valueAt_51 : decode c_Mo_valueAt 51 = .ok (.lload 6, 2) := by decide +kernel
theorem d_Mo_valueAt_53 : decode c_Mo_valueAt 53 = .ok (.lreturn, 1) := by decide +kernel
set_option maxRecDepth 20000 in
theorem w_Mo_valueAt_12b {X : HX} {ad : Nat → Nat} {I : HI} {J : HJ} {N : HN} {r : Int64} {k12 : Int32 → Int64 → Int32 → Option (Int64)} {a0 : Nat} {p1 : Int64} {p3 : Int64} {x5 : Int32} {x6 : Int64} {x8 : Int32} (C : Cx X c_Mo_valueAt RX11 9 (some .long) rm_Mo_valueAt) (ha0 : ga Tm nM a0 2)
    (hk12 : ∀ (x5 : Int32) (x6 : Int64) (x8 : Int32), k12 x5 x6 x8 = some r → G Tm X ad nM 0 0 I J N (gE X Tm ad nM (I, J, N, fun _ => some (.long r))) 12 9 [(0, .ref (ad a0)), (1, .long p1), (3, .long p3), (5, .int x5), (6, .long x6), (8, .int x8)] [])
    (h : Mo_valueAt_12b J a0 p1 p3 k12 x5 x6 x8 = some r) : G Tm X ad nM 0 0 I J N (gE X Tm ad nM (I, J, N, fun _ => some (.long r))) 12 9 [(0, .ref (ad a0)), (1, .long p1), (3, .long p3), (5, .int x5), (6, .long x6), (8, .int x8)] [] := by
  refine g_iload (pc := 12) C d_Mo_valueAt_12 5 rfl ?_
  refine g_iload (pc := 14) C d_Mo_valueAt_14 3 rfl ?_
  refine g_icmp_gt (pc := 16) C 51 d_Mo_valueAt_16 rfl (fun e1 => ?_) (fun e1 => ?_)
  · have h := o_pos e1 h
    refine g_lload (pc := 51) C d_Mo_valueAt_51 4 rfl ?_
    obtain rfl := o_ret h
    exact g_lret (pc := 53) C d_Mo_valueAt_53
  · have h := o_neg e1 h
    refine g_lload (pc := 19) C d_Mo_valueAt_19 4 rfl ?_
    refine g_aload_n (pc := 21) C d_Mo_valueAt_21 rfl 0 rfl ?_
    refine g_iload (pc := 22) C d_Mo_valueAt_22 5 rfl ?_
    obtain ⟨hi2, h⟩ := o_gd h
    refine g_lald (pc := 24) C ha0 hi2 d_Mo_valueAt_24 ?_
    refine g_lload_n (pc := 25) C d_Mo_valueAt_25 rfl 1 rfl ?_
    refine g_iload (pc := 26) C d_Mo_valueAt_26 5 rfl ?_
    obtain ⟨r3, hc4, h⟩ := o_bn1 h
    refine g_S (pc := 28) (rest := [.long (J a0 x8.toNatClampNeg), .long x6]) C (k_Mo_power (xl X)  hc4) sm_Mo_power ml_Mo_144 st_Mo_power ⟨rfl, rfl, Nat.le_of_ble_eq_true rfl, Nat.le_of_ble_eq_true rfl⟩ ⟨Nat.zero_le _, Nat.zero_le _⟩ rfl rfl (Nat.le_of_ble_eq_true rfl) d_Mo_valueAt_28 [.long r3, .long (J a0 x8.toNatClampNeg), .long x6] rfl ?_
    refine g_lmul (pc := 31) C d_Mo_valueAt_31 ?_
    refine g_lload_n (pc := 32) C d_Mo_valueAt_32 rfl 2 rfl ?_
    refine g_iload (pc := 33) C d_Mo_valueAt_33 3 rfl ?_
    refine g_iload (pc := 35) C d_Mo_valueAt_35 5 rfl ?_
    refine g_isub (pc := 37) C d_Mo_valueAt_37 ?_
    obtain ⟨r5, hc6, h⟩ := o_bn1 h
    refine g_S (pc := 38) (rest := [.long ((J a0 x8.toNatClampNeg) * r3), .long x6]) C (k_Mo_power (xl X)  hc6) sm_Mo_power ml_Mo_144 st_Mo_power ⟨rfl, rfl, Nat.le_of_ble_eq_true rfl, Nat.le_of_ble_eq_true rfl⟩ ⟨Nat.zero_le _, Nat.zero_le _⟩ rfl rfl (Nat.le_of_ble_eq_true rfl) d_Mo_valueAt_38 [.long r5, .long ((J a0 x8.toNatClampNeg) * r3), .long x6] rfl ?_
    refine g_lmul (pc := 41) C d_Mo_valueAt_41 ?_
    refine g_ladd (pc := 42) C d_Mo_valueAt_42 ?_
    obtain ⟨v7, ev7, h⟩ := o_bd h
    refine g_topl ev7 ?_
    refine g_lstore (pc := 43) (lv' := [(6, .long v7), (0, .ref (ad a0)), (1, .long p1), (3, .long p3), (5, .int x5), (8, .int x8)]) C d_Mo_valueAt_43 (by decide) rfl ?_
    refine g_iinc (pc := 45) (q := 5) (lv' := [(8, .int (x8 + 1)), (6, .long v7), (0, .ref (ad a0)), (1, .long p1), (3, .long p3), (5, .int x5)]) C d_Mo_valueAt_45 rfl rfl (by decide) rfl ?_
    refine g_goto (pc := 48) C 12 d_Mo_valueAt_48 rfl ?_
    refine g_lv [2, 3, 4, 5, 1, 0] rfl ?_
    exact hk12 _ _ _ h
set_option maxRecDepth 20000 in
theorem w_Mo_valueAt_12 {X : HX} {ad : Nat → Nat} {I : HI} {J : HJ} {N : HN} {r : Int64} {a0 : Nat} {p1 : Int64} {p3 : Int64} (C : Cx X c_Mo_valueAt RX11 9 (some .long) rm_Mo_valueAt) (ha0 : ga Tm nM a0 2) : ∀ (n : Nat) (x5 : Int32) (x6 : Int64) (x8 : Int32), Mo_valueAt_12 J a0 p1 p3 n x5 x6 x8 = some r → G Tm X ad nM 0 0 I J N (gE X Tm ad nM (I, J, N, fun _ => some (.long r))) 12 9 [(0, .ref (ad a0)), (1, .long p1), (3, .long p3), (5, .int x5), (6, .long x6), (8, .int x8)] [] := by
  intro n
  induction n with
  | zero => intro x5 x6 x8 h; cases h
  | succ n ih => intro x5 x6 x8 h; exact w_Mo_valueAt_12b C ha0 ih h
set_option maxRecDepth 20000 in
theorem w_Mo_valueAt_0 {X : HX} {ad : Nat → Nat} {I : HI} {J : HJ} {N : HN} {r : Int64} {a0 : Nat} {p1 : Int64} {p3 : Int64} (C : Cx X c_Mo_valueAt RX11 9 (some .long) rm_Mo_valueAt) (ha0 : ga Tm nM a0 2)
    (h : Mo_valueAt_0 J a0 p1 p3 = some r) : G Tm X ad nM 0 0 I J N (gE X Tm ad nM (I, J, N, fun _ => some (.long r))) 0 9 [(0, .ref (ad a0)), (1, .long p1), (3, .long p3)] [] := by
  refine g_aload_n (pc := 0) C d_Mo_valueAt_0 rfl 0 rfl ?_
  obtain ⟨r1, hc2, h⟩ := o_bn1 h
  refine g_S (pc := 1) (rest := []) C (k_Mo_top (xl X) ha0 hc2) sm_Mo_top ml_Mo_184 st_Mo_top ⟨rfl, rfl, Nat.le_of_ble_eq_true rfl, Nat.le_of_ble_eq_true rfl⟩ ⟨Nat.zero_le _, Nat.zero_le _⟩ rfl rfl (Nat.le_of_ble_eq_true rfl) d_Mo_valueAt_1 [.int r1] rfl ?_
  refine g_istore (pc := 4) (lv' := [(5, .int r1), (0, .ref (ad a0)), (1, .long p1), (3, .long p3)]) C d_Mo_valueAt_4 (by decide) rfl ?_
  refine g_lconst (pc := 6) C (0 : Int64) d_Mo_valueAt_6 (by decide) ?_
  refine g_lstore (pc := 7) (lv' := [(6, .long (0 : Int64)), (5, .int r1), (0, .ref (ad a0)), (1, .long p1), (3, .long p3)]) C d_Mo_valueAt_7 (by decide) rfl ?_
  refine g_iconst (pc := 9) C (0 : Int32) d_Mo_valueAt_9 (by decide) ?_
  refine g_istore (pc := 10) (lv' := [(8, .int (0 : Int32)), (6, .long (0 : Int64)), (5, .int r1), (0, .ref (ad a0)), (1, .long p1), (3, .long p3)]) C d_Mo_valueAt_10 (by decide) rfl ?_
  refine g_lv [3, 4, 5, 2, 1, 0] rfl ?_
  exact w_Mo_valueAt_12 C ha0 _ _ _ _ h
set_option maxRecDepth 20000 in
theorem k_Mo_valueAt (l : Launch) {I : HI} {J : HJ} {N : HN} {a0 : Nat} {p1 : Int64} {p3 : Int64} {r : Int64} (ha0 : ga Tm nM a0 2) (h : Mo_valueAt J a0 p1 p3 = some r) : gM l y_Mo_valueAt c_Mo_valueAt 9 (some .long) rm_Mo_valueAt Tm nM I J N (fun ad => [.ref (ad a0), .long p1, .long p3]) (I, J, N, fun _ => some (.long r)) :=
  g_meth (lv := fun ad => [(0, .ref (ad a0)), (1, .long p1), (3, .long p3)]) (by decide) (fun _ => Nat.le_of_ble_eq_true rfl) (fun _ => rfl) (fun X ad C => g_lv [0, 1, 2] rfl (w_Mo_valueAt_0 C ha0 h))
theorem d_Mo_takesOut_0 : decode c_Mo_takesOut 0 = .ok (.aload_n 0, 1) := by decide +kernel
theorem d_Mo_takesOut_1 : decode c_Mo_takesOut 1 = .ok (.getfield 41, 3) := by decide +kernel
theorem d_Mo_takesOut_4 : decode c_Mo_takesOut 4 = .ok (.invokestatic 184, 3) := by decide +kernel
theorem d_Mo_takesOut_7 : decode c_Mo_takesOut 7 = .ok (.istore 5, 2) := by decide +kernel
theorem d_Mo_takesOut_9 : decode c_Mo_takesOut 9 = .ok (.iload 5, 2) := by decide +kernel
theorem d_Mo_takesOut_11 : decode c_Mo_takesOut 11 = .ok (.iconst 1, 1) := by decide +kernel
theorem d_Mo_takesOut_12 : decode c_Mo_takesOut 12 = .ok (.if_icmp .lt 17, 3) := by decide +kernel
theorem d_Mo_takesOut_15 : decode c_Mo_takesOut 15 = .ok (.aload_n 0, 1) := by decide +kernel
theorem d_Mo_takesOut_16 : decode c_Mo_takesOut 16 = .ok (.getfield 41, 3) := by decide +kernel
theorem d_Mo_takesOut_19 : decode c_Mo_takesOut 19 = .ok (.lload_n 1, 1) := by decide +kernel
theorem d_Mo_takesOut_20 : decode c_Mo_takesOut 20 = .ok (.lload_n 3, 1) := by decide +kernel
theorem d_Mo_takesOut_21 : decode c_Mo_takesOut 21 = .ok (.invokestatic 217, 3) := by decide +kernel
theorem d_Mo_takesOut_24 : decode c_Mo_takesOut 24 = .ok (.lconst 0, 1) := by decide +kernel
theorem d_Mo_takesOut_25 : decode c_Mo_takesOut 25 = .ok (.lcmp, 1) := by decide +kernel
theorem d_Mo_takesOut_26 : decode c_Mo_takesOut 26 = .ok (.ifCond .eq 5, 3) := by decide +kernel
theorem d_Mo_takesOut_29 : decode c_Mo_takesOut 29 = .ok (.iconst 0, 1) := by decide +kernel
theorem d_Mo_takesOut_30 : decode c_Mo_takesOut 30 = .ok (.ireturn, 1) := by decide +kernel
theorem d_Mo_takesOut_31 : decode c_Mo_takesOut 31 = .ok (.lconst 0, 1) := by decide +kernel
theorem d_Mo_takesOut_32 : decode c_Mo_takesOut 32 = .ok (.lstore 6, 2) := by decide +kernel
theorem d_Mo_takesOut_34 : decode c_Mo_takesOut 34 = .ok (.iload 5, 2) := by decide +kernel
theorem d_Mo_takesOut_36 : decode c_Mo_takesOut 36 = .ok (.istore 8, 2) := by decide +kernel
theorem d_Mo_takesOut_38 : decode c_Mo_takesOut 38 = .ok (.iload 8, 2) := by decide +kernel
theorem d_Mo_takesOut_40 : decode c_Mo_takesOut 40 = .ok (.ifCond .le 40, 3) := by decide +kernel
theorem d_Mo_takesOut_43 : decode c_Mo_takesOut 43 = .ok (.aload_n 0, 1) := by decide +kernel
theorem d_Mo_takesOut_44 : decode c_Mo_takesOut 44 = .ok (.getfield 41, 3) := by decide +kernel
theorem d_Mo_takesOut_47 : decode c_Mo_takesOut 47 = .ok (.iload 8, 2) := by decide +kernel
theorem d_Mo_takesOut_49 : decode c_Mo_takesOut 49 = .ok (.laload, 1) := by decide +kernel
theorem d_Mo_takesOut_50 : decode c_Mo_takesOut 50 = .ok (.lload_n 1, 1) := by decide +kernel
theorem d_Mo_takesOut_51 : decode c_Mo_takesOut 51 = .ok (.lload 6, 2) := by decide +kernel
theorem d_Mo_takesOut_53 : decode c_Mo_takesOut 53 = .ok (.lmul, 1) := by decide +kernel
theorem d_Mo_takesOut_54 : decode c_Mo_takesOut 54 = .ok (.ladd, 1) := by decide +kernel
theorem d_Mo_takesOut_55 : decode c_Mo_takesOut 55 = .ok (.lload_n 3, 1) := by decide +kernel
theorem d_Mo_takesOut_56 : decode c_Mo_takesOut 56 = .ok (.ldiv, 1) := by decide +kernel
theorem d_Mo_takesOut_57 : decode c_Mo_takesOut 57 = .ok (.lstore 9, 2) := by decide +kernel
theorem d_Mo_takesOut_59 : decode c_Mo_takesOut 59 = .ok (.aload_n 0, 1) := by decide +kernel
theorem d_Mo_takesOut_60 : decode c_Mo_takesOut 60 = .ok (.getfield 44, 3) := by decide +kernel
theorem d_Mo_takesOut_63 : decode c_Mo_takesOut 63 = .ok (.iload 8, 2) := by decide +kernel
theorem d_Mo_takesOut_65 : decode c_Mo_takesOut 65 = .ok (.iconst 1, 1) := by decide +kernel
theorem d_Mo_takesOut_66 : decode c_Mo_takesOut 66 = .ok (.isub, 1) := by decide +kernel
theorem d_Mo_takesOut_67 : decode c_Mo_takesOut 67 = .ok (.lload 9, 2) := by decide +kernel
theorem d_Mo_takesOut_69 : decode c_Mo_takesOut 69 = .ok (.lastore, 1) := by decide +kernel
theorem d_Mo_takesOut_70 : decode c_Mo_takesOut 70 = .ok (.lload 9, 2) := by decide +kernel
theorem d_Mo_takesOut_72 : decode c_Mo_takesOut 72 = .ok (.lstore 6, 2) := by decide +kernel
theorem d_Mo_takesOut_74 : decode c_Mo_takesOut 74 = .ok (.iinc 8 (-1), 3) := by decide +kernel
theorem d_Mo_takesOut_77 : decode c_Mo_takesOut 77 = .ok (.goto (-39), 3) := by decide +kernel
theorem d_Mo_takesOut_80 : decode c_Mo_takesOut 80 = .ok (.iconst 0, 1) := by decide +kernel
theorem d_Mo_takesOut_81 : decode c_Mo_takesOut 81 = .ok (.istore 8, 2) := by decide +kernel
theorem d_Mo_takesOut_83 : decode c_Mo_takesOut 83 = .ok (.iload 8, 2) := by decide +kernel
theorem d_Mo_takesOut_85 : decode c_Mo_takesOut 85 = .ok (.iload 5, 2) := by decide +kernel
theorem d_Mo_takesOut_87 : decode c_Mo_takesOut 87 = .ok (.if_icmp .ge 23, 3) := by decide +kernel
theorem d_Mo_takesOut_90 : decode c_Mo_takesOut 90 = .ok (.aload_n 0, 1) := by decide +kernel
theorem d_Mo_takesOut_91 : decode c_Mo_takesOut 91 = .ok (.getfield 41, 3) := by decide +kernel
theorem d_Mo_takesOut_94 : decode c_Mo_takesOut 94 = .ok (.iload 8, 2) := by decide +kernel
theorem d_Mo_takesOut_96 : decode c_Mo_takesOut 96 = .ok (.aload_n 0, 1) := by decide +kernel
theorem d_Mo_takesOut_97 : decode c_Mo_takesOut 97 = .ok (.getfield 44, 3) := by decide +kernel
theorem d_Mo_takesOut_100 : decode c_Mo_takesOut 100 = .ok (.iload 8, 2) := by decide +kernel
theorem d_Mo_takesOut_102 : decode c_Mo_takesOut 102 = .ok (.laload, 1) := by decide +kernel
theorem d_Mo_takesOut_103 : decode c_Mo_takesOut 103 = .ok (.lastore, 1) := by decide +kernel
theorem d_Mo_takesOut_104 : decode c_Mo_takesOut 104 = .ok (.iinc 8 1, 3) := by decide +kernel
theorem d_Mo_takesOut_107 : decode c_Mo_takesOut 107 = .ok (.goto (-24), 3) := by decide +kernel
theorem d_Mo_takesOut_110 : decode c_Mo_takesOut 110 = .ok (.aload_n 0, 1) := by decide +kernel
theorem d_Mo_takesOut_111 : decode c_Mo_takesOut 111 = .ok (.getfield 41, 3) := by decide +kernel
theorem d_Mo_takesOut_114 : decode c_Mo_takesOut 114 = .ok (.iload 5, 2) := by decide +kernel
theorem d_Mo_takesOut_116 : decode c_Mo_takesOut 116 = .ok (.lconst 0, 1) := by decide +kernel
theorem d_Mo_takesOut_117 : decode c_Mo_takesOut 117 = .ok (.lastore, 1) := by decide +kernel
theorem d_Mo_takesOut_118 : decode c_Mo_takesOut 118 = .ok (.iconst 1, 1) := by decide +kernel
theorem d_Mo_takesOut_119 : decode c_Mo_takesOut 119 = .ok (.ireturn, 1) := by decide +kernel
set_option maxRecDepth 20000 in
theorem w_Mo_takesOut_83b {X : HX} {ad : Nat → Nat} {I : HI} {J : HJ} {N : HN} {r : HJ × Int32} {k83 : HJ → Int32 → Int32 → Option (HJ × Int32)} {a0 : Nat} {p1 : Int64} {p3 : Int64} {x5 : Int32} {x8 : Int32} (C : Cx X c_Mo_takesOut RX11 11 (some .boolean) rm_Mo_takesOut) (ha0 : gk Tm nM a0 (0, 11))
    (hk83 : ∀ (J : HJ) (x5 : Int32) (x8 : Int32), k83 J x5 x8 = some r → G Tm X ad nM 0 0 I J N (gE X Tm ad nM (I, r.1, N, fun _ => some (.int r.2))) 83 11 [(0, .ref (ad a0)), (5, .int x5), (8, .int x8)] [])
    (h : Mo_takesOut_83b N a0 p1 p3 k83 J x5 x8 = some r) : G Tm X ad nM 0 0 I J N (gE X Tm ad nM (I, r.1, N, fun _ => some (.int r.2))) 83 11 [(0, .ref (ad a0)), (5, .int x5), (8, .int x8)] [] := by
  refine g_iload (pc := 83) C d_Mo_takesOut_83 2 rfl ?_
  refine g_iload (pc := 85) C d_Mo_takesOut_85 1 rfl ?_
  refine g_icmp_ge (pc := 87) C 110 d_Mo_takesOut_87 rfl (fun e1 => ?_) (fun e1 => ?_)
  · have h := o_pos e1 h
    refine g_aload_n (pc := 110) C d_Mo_takesOut_110 rfl 0 rfl ?_
    obtain ⟨b2, hnb2, hb2, h⟩ := o_ra h
    refine g_get (pc := 111) (k := 17) (v := va_rf ((N a0 17).map ad)) C gcX11 inX11 (by decide) fl_Mo_41 ha0 rfl d_Mo_takesOut_111 ?_
    refine g_top (g_rf hnb2) ?_
    refine g_iload (pc := 114) C d_Mo_takesOut_114 1 rfl ?_
    refine g_lconst (pc := 116) C (0 : Int64) d_Mo_takesOut_116 (by decide) ?_
    obtain ⟨hi3, h⟩ := o_gd h
    refine g_last (pc := 117) C hb2 hi3 d_Mo_takesOut_117 ?_
    obtain ⟨J4, eJ4, h⟩ := o_bd h
    rw [← eJ4]
    refine g_iconst (pc := 118) C (1 : Int32) d_Mo_takesOut_118 (by decide) ?_
    obtain rfl := o_ret h
    exact g_zret (pc := 119) C zn_1 d_Mo_takesOut_119
  · have h := o_neg e1 h
    refine g_aload_n (pc := 90) C d_Mo_takesOut_90 rfl 0 rfl ?_
    obtain ⟨b5, hnb5, hb5, h⟩ := o_ra h
    refine g_get (pc := 91) (k := 17) (v := va_rf ((N a0 17).map ad)) C gcX11 inX11 (by decide) fl_Mo_41 ha0 rfl d_Mo_takesOut_91 ?_
    refine g_top (g_rf hnb5) ?_
    refine g_iload (pc := 94) C d_Mo_takesOut_94 2 rfl ?_
    refine g_aload_n (pc := 96) C d_Mo_takesOut_96 rfl 0 rfl ?_
    obtain ⟨b6, hnb6, hb6, h⟩ := o_ra h
    refine g_get (pc := 97) (k := 18) (v := va_rf ((N a0 18).map ad)) C gcX11 inX11 (by decide) fl_Mo_44 ha0 rfl d_Mo_takesOut_97 ?_
    refine g_top (g_rf hnb6) ?_
    refine g_iload (pc := 100) C d_Mo_takesOut_100 2 rfl ?_
    obtain ⟨hi7, h⟩ := o_gd h
    refine g_lald (pc := 102) C hb6 hi7 d_Mo_takesOut_102 ?_
    obtain ⟨hi8, h⟩ := o_gd h
    refine g_last (pc := 103) C hb5 hi8 d_Mo_takesOut_103 ?_
    obtain ⟨J9, eJ9, h⟩ := o_bd h
    rw [← eJ9]
    refine g_iinc (pc := 104) (q := 2) (lv' := [(8, .int (x8 + 1)), (0, .ref (ad a0)), (5, .int x5)]) C d_Mo_takesOut_104 rfl rfl (by decide) rfl ?_
    refine g_goto (pc := 107) C 83 d_Mo_takesOut_107 rfl ?_
    refine g_lv [1, 2, 0] rfl ?_
    exact hk83 _ _ _ h
set_option maxRecDepth 20000 in
theorem w_Mo_takesOut_83 {X : HX} {ad : Nat → Nat} {I : HI} {N : HN} {r : HJ × Int32} {a0 : Nat} {p1 : Int64} {p3 : Int64} (C : Cx X c_Mo_takesOut RX11 11 (some .boolean) rm_Mo_takesOut) (ha0 : gk Tm nM a0 (0, 11)) : ∀ (n : Nat) (J : HJ) (x5 : Int32) (x8 : Int32), Mo_takesOut_83 N a0 p1 p3 n J x5 x8 = some r → G Tm X ad nM 0 0 I J N (gE X Tm ad nM (I, r.1, N, fun _ => some (.int r.2))) 83 11 [(0, .ref (ad a0)), (5, .int x5), (8, .int x8)] [] := by
  intro n
  induction n with
  | zero => intro J x5 x8 h; cases h
  | succ n ih => intro J x5 x8 h; exact w_Mo_takesOut_83b C ha0 ih h
set_option maxRecDepth 20000 in
theorem w_Mo_takesOut_38b {X : HX} {ad : Nat → Nat} {I : HI} {J : HJ} {N : HN} {r : HJ × Int32} {k38 : HJ → Int32 → Int64 → Int32 → Option (HJ × Int32)} {a0 : Nat} {p1 : Int64} {p3 : Int64} {x5 : Int32} {x6 : Int64} {x8 : Int32} (C : Cx X c_Mo_takesOut RX11 11 (some .boolean) rm_Mo_takesOut) (ha0 : gk Tm nM a0 (0, 11))
    (hk38 : ∀ (J : HJ) (x5 : Int32) (x6 : Int64) (x8 : Int32), k38 J x5 x6 x8 = some r → G Tm X ad nM 0 0 I J N (gE X Tm ad nM (I, r.1, N, fun _ => some (.int r.2))) 38 11 [(0, .ref (ad a0)), (1, .long p1), (3, .long p3), (5, .int x5), (6, .long x6), (8, .int x8)] [])
    (h : Mo_takesOut_38b N a0 p1 p3 k38 J x5 x6 x8 = some r) : G Tm X ad nM 0 0 I J N (gE X Tm ad nM (I, r.1, N, fun _ => some (.int r.2))) 38 11 [(0, .ref (ad a0)), (1, .long p1), (3, .long p3), (5, .int x5), (6, .long x6), (8, .int x8)] [] := by
  refine g_iload (pc := 38) C d_Mo_takesOut_38 5 rfl ?_
  refine g_if_le (pc := 40) C 80 d_Mo_takesOut_40 rfl (fun e1 => ?_) (fun e1 => ?_)
  · have h := o_pos e1 h
    refine g_iconst (pc := 80) C (0 : Int32) d_Mo_takesOut_80 (by decide) ?_
    refine g_istore (pc := 81) (lv' := [(8, .int (0 : Int32)), (0, .ref (ad a0)), (1, .long p1), (3, .long p3), (5, .int x5), (6, .long x6)]) C d_Mo_takesOut_81 (by decide) rfl ?_
    refine g_lv [1, 4, 0] rfl ?_
    exact w_Mo_takesOut_83 C ha0 _ _ _ _ h
  · have h := o_neg e1 h
    refine g_aload_n (pc := 43) C d_Mo_takesOut_43 rfl 0 rfl ?_
    obtain ⟨b2, hnb2, hb2, h⟩ := o_ra h
    refine g_get (pc := 44) (k := 17) (v := va_rf ((N a0 17).map ad)) C gcX11 inX11 (by decide) fl_Mo_41 ha0 rfl d_Mo_takesOut_44 ?_
    refine g_top (g_rf hnb2) ?_
    refine g_iload (pc := 47) C d_Mo_takesOut_47 5 rfl ?_
    obtain ⟨hi3, h⟩ := o_gd h
    refine g_lald (pc := 49) C hb2 hi3 d_Mo_takesOut_49 ?_
    refine g_lload_n (pc := 50) C d_Mo_takesOut_50 rfl 1 rfl ?_
    refine g_lload (pc := 51) C d_Mo_takesOut_51 4 rfl ?_
    refine g_lmul (pc := 53) C d_Mo_takesOut_53 ?_
    refine g_ladd (pc := 54) C d_Mo_takesOut_54 ?_
    refine g_lload_n (pc := 55) C d_Mo_takesOut_55 rfl 2 rfl ?_
    obtain ⟨hz4, h⟩ := o_gd h
    refine g_ldiv (pc := 56) C d_Mo_takesOut_56 (of_decide_eq_true hz4) ?_
    obtain ⟨v5, ev5, h⟩ := o_bd h
    refine g_topl ev5 ?_
    refine g_lstore (pc := 57) (lv' := [(9, .long v5), (0, .ref (ad a0)), (1, .long p1), (3, .long p3), (5, .int x5), (6, .long x6), (8, .int x8)]) C d_Mo_takesOut_57 (by decide) rfl ?_
    refine g_aload_n (pc := 59) C d_Mo_takesOut_59 rfl 1 rfl ?_
    obtain ⟨b6, hnb6, hb6, h⟩ := o_ra h
    refine g_get (pc := 60) (k := 18) (v := va_rf ((N a0 18).map ad)) C gcX11 inX11 (by decide) fl_Mo_44 ha0 rfl d_Mo_takesOut_60 ?_
    refine g_top (g_rf hnb6) ?_
    refine g_iload (pc := 63) C d_Mo_takesOut_63 6 rfl ?_
    refine g_iconst (pc := 65) C (1 : Int32) d_Mo_takesOut_65 (by decide) ?_
    refine g_isub (pc := 66) C d_Mo_takesOut_66 ?_
    refine g_lload (pc := 67) C d_Mo_takesOut_67 0 rfl ?_
    obtain ⟨hi7, h⟩ := o_gd h
    refine g_last (pc := 69) C hb6 hi7 d_Mo_takesOut_69 ?_
    obtain ⟨J8, eJ8, h⟩ := o_bd h
    rw [← eJ8]
    refine g_lload (pc := 70) C d_Mo_takesOut_70 0 rfl ?_
    refine g_lstore (pc := 72) (lv' := [(6, .long v5), (9, .long v5), (0, .ref (ad a0)), (1, .long p1), (3, .long p3), (5, .int x5), (8, .int x8)]) C d_Mo_takesOut_72 (by decide) rfl ?_
    refine g_iinc (pc := 74) (q := 6) (lv' := [(8, .int (x8 + (-1))), (6, .long v5), (9, .long v5), (0, .ref (ad a0)), (1, .long p1), (3, .long p3), (5, .int x5)]) C d_Mo_takesOut_74 rfl rfl (by decide) rfl ?_
    refine g_goto (pc := 77) C 38 d_Mo_takesOut_77 rfl ?_
    refine g_lv [3, 4, 5, 6, 1, 0] rfl ?_
    exact hk38 _ _ _ _ h
set_option maxRecDepth 20000 in
theorem w_Mo_takesOut_38 {X : HX} {ad : Nat → Nat} {I : HI} {N : HN} {r : HJ × Int32} {a0 : Nat} {p1 : Int64} {p3 : Int64} (C : Cx X c_Mo_takesOut RX11 11 (some .boolean) rm_Mo_takesOut) (ha0 : gk Tm nM a0 (0, 11)) : ∀ (n : Nat) (J : HJ) (x5 : Int32) (x6 : Int64) (x8 : Int32), Mo_takesOut_38 N a0 p1 p3 n J x5 x6 x8 = some r → G Tm X ad nM 0 0 I J N (gE X Tm ad nM (I, r.1, N, fun _ => some (.int r.2))) 38 11 [(0, .ref (ad a0)), (1, .long p1), (3, .long p3), (5, .int x5), (6, .long x6), (8, .int x8)] [] := by
  intro n
  induction n with
  | zero => intro J x5 x6 x8 h; cases h
  | succ n ih => intro J x5 x6 x8 h; exact w_Mo_takesOut_38b C ha0 ih h
set_option maxRecDepth 20000 in
theorem w_Mo_takesOut_0 {X : HX} {ad : Nat → Nat} {I : HI} {J : HJ} {N : HN} {r : HJ × Int32} {a0 : Nat} {p1 : Int64} {p3 : Int64} (C : Cx X c_Mo_takesOut RX11 11 (some .boolean) rm_Mo_takesOut) (ha0 : gk Tm nM a0 (0, 11))
    (h : Mo_takesOut_0 N a0 p1 p3 J = some r) : G Tm X ad nM 0 0 I J N (gE X Tm ad nM (I, r.1, N, fun _ => some (.int r.2))) 0 11 [(0, .ref (ad a0)), (1, .long p1), (3, .long p3)] [] := by
  refine g_aload_n (pc := 0) C d_Mo_takesOut_0 rfl 0 rfl ?_
  obtain ⟨b1, hnb1, hb1, h⟩ := o_ra h
  refine g_get (pc := 1) (k := 17) (v := va_rf ((N a0 17).map ad)) C gcX11 inX11 (by decide) fl_Mo_41 ha0 rfl d_Mo_takesOut_1 ?_
  refine g_top (g_rf hnb1) ?_
  obtain ⟨r2, hc3, h⟩ := o_bn1 h
  refine g_S (pc := 4) (rest := []) C (k_Mo_top (xl X) hb1 hc3) sm_Mo_top ml_Mo_184 st_Mo_top ⟨rfl, rfl, Nat.le_of_ble_eq_true rfl, Nat.le_of_ble_eq_true rfl⟩ ⟨Nat.zero_le _, Nat.zero_le _⟩ rfl rfl (Nat.le_of_ble_eq_true rfl) d_Mo_takesOut_4 [.int r2] rfl ?_
  refine g_istore (pc := 7) (lv' := [(5, .int r2), (0, .ref (ad a0)), (1, .long p1), (3, .long p3)]) C d_Mo_takesOut_7 (by decide) rfl ?_
  refine g_iload (pc := 9) C d_Mo_takesOut_9 0 rfl ?_
  refine g_iconst (pc := 11) C (1 : Int32) d_Mo_takesOut_11 (by decide) ?_
  refine g_icmp_lt (pc := 12) C 29 d_Mo_takesOut_12 rfl (fun e4 => ?_) (fun e4 => ?_)
  · have h := o_pos e4 h
    refine g_iconst (pc := 29) C (0 : Int32) d_Mo_takesOut_29 (by decide) ?_
    obtain rfl := o_ret h
    exact g_zret (pc := 30) C zn_0 d_Mo_takesOut_30
  · have h := o_neg e4 h
    refine g_aload_n (pc := 15) C d_Mo_takesOut_15 rfl 1 rfl ?_
    obtain ⟨b5, hnb5, hb5, h⟩ := o_ra h
    refine g_get (pc := 16) (k := 17) (v := va_rf ((N a0 17).map ad)) C gcX11 inX11 (by decide) fl_Mo_41 ha0 rfl d_Mo_takesOut_16 ?_
    refine g_top (g_rf hnb5) ?_
    refine g_lload_n (pc := 19) C d_Mo_takesOut_19 rfl 2 rfl ?_
    refine g_lload_n (pc := 20) C d_Mo_takesOut_20 rfl 3 rfl ?_
    obtain ⟨r6, hc7, h⟩ := o_bn1 h
    refine g_S (pc := 21) (rest := []) C (k_Mo_valueAt (xl X) hb5 hc7) sm_Mo_valueAt ml_Mo_217 st_Mo_valueAt ⟨rfl, rfl, Nat.le_of_ble_eq_true rfl, Nat.le_of_ble_eq_true rfl⟩ ⟨Nat.zero_le _, Nat.zero_le _⟩ rfl rfl (Nat.le_of_ble_eq_true rfl) d_Mo_takesOut_21 [.long r6] rfl ?_
    refine g_lconst (pc := 24) C (0 : Int64) d_Mo_takesOut_24 (by decide) ?_
    refine g_lcmp_eq (pc := 25) C 31 d_Mo_takesOut_25 d_Mo_takesOut_26 rfl (fun e8 => ?_) (fun e8 => ?_)
    · have h := o_pos e8 h
      refine g_lconst (pc := 31) C (0 : Int64) d_Mo_takesOut_31 (by decide) ?_
      refine g_lstore (pc := 32) (lv' := [(6, .long (0 : Int64)), (5, .int r2), (0, .ref (ad a0)), (1, .long p1), (3, .long p3)]) C d_Mo_takesOut_32 (by decide) rfl ?_
      refine g_iload (pc := 34) C d_Mo_takesOut_34 1 rfl ?_
      refine g_istore (pc := 36) (lv' := [(8, .int r2), (6, .long (0 : Int64)), (5, .int r2), (0, .ref (ad a0)), (1, .long p1), (3, .long p3)]) C d_Mo_takesOut_36 (by decide) rfl ?_
      refine g_lv [3, 4, 5, 2, 1, 0] rfl ?_
      exact w_Mo_takesOut_38 C ha0 _ _ _ _ _ h
    · have h := o_neg e8 h
      refine g_iconst (pc := 29) C (0 : Int32) d_Mo_takesOut_29 (by decide) ?_
      obtain rfl := o_ret h
      exact g_zret (pc := 30) C zn_0 d_Mo_takesOut_30
set_option maxRecDepth 20000 in
theorem k_Mo_takesOut (l : Launch) {I : HI} {J : HJ} {N : HN} {a0 : Nat} {p1 : Int64} {p3 : Int64} {r : HJ × Int32} (ha0 : gk Tm nM a0 (0, 11)) (h : Mo_takesOut N a0 p1 p3 J = some r) : gM l y_Mo_takesOut c_Mo_takesOut 11 (some .boolean) rm_Mo_takesOut Tm nM I J N (fun ad => [.ref (ad a0), .long p1, .long p3]) (I, r.1, N, fun _ => some (.int r.2)) :=
  g_meth (lv := fun ad => [(0, .ref (ad a0)), (1, .long p1), (3, .long p3)]) (by decide) (fun _ => Nat.le_of_ble_eq_true rfl) (fun _ => rfl) (fun X ad C => g_lv [0, 1, 2] rfl (w_Mo_takesOut_0 C ha0 h))
theorem d_Mo_candidate_0 : decode c_Mo_candidate 0 = .ok (.iconst 0, 1) := by decide +kernel
theorem d_Mo_candidate_1 : decode c_Mo_candidate 1 = .ok (.istore_n 2, 1) := by decide +kernel
theorem d_Mo_candidate_2 : decode c_Mo_candidate 2 = .ok (.iconst 0, 1) := by decide +kernel
theorem d_Mo_candidate_3 : decode c_Mo_candidate 3 = .ok (.istore_n 3, 1) := by decide +kernel
theorem d_Mo_candidate_4 : decode c_Mo_candidate 4 = .ok (.iconst 0, 1) := by decide +kernel
theorem d_Mo_candidate_5 : decode c_Mo_candidate 5 = .ok (.istore 4, 2) := by decide +kernel
theorem d_Mo_candidate_7 : decode c_Mo_candidate 7 = .ok (.bipush (-10), 2) := by decide +kernel
theorem d_Mo_candidate_9 : decode c_Mo_candidate 9 = .ok (.istore 5, 2) := by decide +kernel
theorem d_Mo_candidate_11 : decode c_Mo_candidate 11 = .ok (.iconst 1, 1) := by decide +kernel
theorem d_Mo_candidate_12 : decode c_Mo_candidate 12 = .ok (.istore 6, 2) := by decide +kernel
theorem d_Mo_candidate_14 : decode c_Mo_candidate 14 = .ok (.iconst 0, 1) := by decide +kernel
theorem d_Mo_candidate_15 : decode c_Mo_candidate 15 = .ok (.istore 7, 2) := by decide +kernel
theorem d_Mo_candidate_17 : decode c_Mo_candidate 17 = .ok (.iload 7, 2) := by decide +kernel
theorem d_Mo_candidate_19 : decode c_Mo_candidate 19 = .ok (.iload_n 0, 1) := by decide +kernel
theorem d_Mo_candidate_20 : decode c_Mo_candidate 20 = .ok (.if_icmp .gt 150, 3) := by decide +kernel
theorem d_Mo_candidate_23 : decode c_Mo_candidate 23 = .ok (.iconst 0, 1) := by decide +kernel
theorem d_Mo_candidate_24 : decode c_Mo_candidate 24 = .ok (.istore_n 2, 1) := by decide +kernel
theorem d_Mo_candidate_25 : decode c_Mo_candidate 25 = .ok (.iconst 0, 1) := by decide +kernel
theorem d_Mo_candidate_26 : decode c_Mo_candidate 26 = .ok (.istore_n 3, 1) := by decide +kernel
theorem d_Mo_candidate_27 : decode c_Mo_candidate 27 = .ok (.iconst 0, 1) := by decide +kernel
theorem d_Mo_candidate_28 : decode c_Mo_candidate 28 = .ok (.istore 8, 2) := by decide +kernel
theorem d_Mo_candidate_30 : decode c_Mo_candidate 30 = .ok (.iload 8, 2) := by decide +kernel
theorem d_Mo_candidate_32 : decode c_Mo_candidate 32 = .ok (.sipush 162, 3) := by decide +kernel
theorem d_Mo_candidate_35 : decode c_Mo_candidate 35 = .ok (.if_icmp .ge 117, 3) := by decide +kernel
theorem d_Mo_candidate_38 : decode c_Mo_candidate 38 = .ok (.iload 8, 2) := by decide +kernel
theorem d_Mo_candidate_40 : decode c_Mo_candidate 40 = .ok (.bipush 81, 2) := by decide +kernel
theorem d_Mo_candidate_42 : decode c_Mo_candidate 42 = .ok (.irem, 1) := by decide +kernel
theorem d_Mo_candidate_43 : decode c_Mo_candidate 43 = .ok (.bipush 9, 2) := by decide +kernel
theorem d_Mo_candidate_45 : decode c_Mo_candidate 45 = .ok (.idiv, 1) := by decide +kernel
theorem d_Mo_candidate_46 : decode c_Mo_candidate 46 = .ok (.iconst 1, 1) := by decide +kernel
theorem d_Mo_candidate_47 : decode c_Mo_candidate 47 = .ok (.iadd, 1) := by decide +kernel
theorem d_Mo_candidate_48 : decode c_Mo_candidate 48 = .ok (.iload 8, 2) := by decide +kernel
theorem d_Mo_candidate_50 : decode c_Mo_candidate 50 = .ok (.bipush 81, 2) := by decide +kernel
theorem d_Mo_candidate_52 : decode c_Mo_candidate 52 = .ok (.if_icmp .ge 7, 3) := by decide +kernel
theorem d_Mo_candidate_55 : decode c_Mo_candidate 55 = .ok (.iconst (-1), 1) := by decide +kernel
theorem d_Mo_candidate_56 : decode c_Mo_candidate 56 = .ok (.goto 4, 3) := by decide +kernel
theorem d_Mo_candidate_59 : decode c_Mo_candidate 59 = .ok (.iconst 1, 1) := by decide +kernel
theorem d_Mo_candidate_60 : decode c_Mo_candidate 60 = .ok (.imul, 1) := by decide +kernel
theorem d_Mo_candidate_61 : decode c_Mo_candidate 61 = .ok (.istore 9, 2) := by decide +kernel
theorem d_Mo_candidate_63 : decode c_Mo_candidate 63 = .ok (.iload 8, 2) := by decide +kernel
theorem d_Mo_candidate_65 : decode c_Mo_candidate 65 = .ok (.bipush 9, 2) := by decide +kernel
theorem d_Mo_candidate_67 : decode c_Mo_candidate 67 = .ok (.irem, 1) := by decide +kernel
theorem d_Mo_candidate_68 : decode c_Mo_candidate 68 = .ok (.iconst 1, 1) := by decide +kernel
theorem d_Mo_candidate_69 : decode c_Mo_candidate 69 = .ok (.iadd, 1) := by decide +kernel
theorem d_Mo_candidate_70 : decode c_Mo_candidate 70 = .ok (.istore 10, 2) := by decide +kernel
theorem d_Mo_candidate_72 : decode c_Mo_candidate 72 = .ok (.iload 9, 2) := by decide +kernel
theorem d_Mo_candidate_74 : decode c_Mo_candidate 74 = .ok (.iload 6, 2) := by decide +kernel
theorem d_Mo_candidate_76 : decode c_Mo_candidate 76 = .ok (.imul, 1) := by decide +kernel
theorem d_Mo_candidate_77 : decode c_Mo_candidate 77 = .ok (.iload 5, 2) := by decide +kernel
theorem d_Mo_candidate_79 : decode c_Mo_candidate 79 = .ok (.iload 10, 2) := by decide +kernel
theorem d_Mo_candidate_81 : decode c_Mo_candidate 81 = .ok (.imul, 1) := by decide +kernel
theorem d_Mo_candidate_82 : decode c_Mo_candidate 82 = .ok (.if_icmp .le 7, 3) := by decide +kernel
theorem d_Mo_candidate_85 : decode c_Mo_candidate 85 = .ok (.iconst 1, 1) := by decide +kernel
theorem d_Mo_candidate_86 : decode c_Mo_candidate 86 = .ok (.goto 4, 3) := by decide +kernel
theorem d_Mo_candidate_89 : decode c_Mo_candidate 89 = .ok (.iconst 0, 1) := by decide +kernel
theorem d_Mo_candidate_90 : decode c_Mo_candidate 90 = .ok (.istore 11, 2) := by decide +kernel
theorem d_Mo_candidate_92 : decode c_Mo_candidate 92 = .ok (.iload 11, 2) := by decide +kernel
theorem d_Mo_candidate_94 : decode c_Mo_candidate 94 = .ok (.ifCond .eq 23, 3) := by decide +kernel
theorem d_Mo_candidate_97 : decode c_Mo_candidate 97 = .ok (.iload_n 3, 1) := by decide +kernel
theorem d_Mo_candidate_98 : decode c_Mo_candidate 98 = .ok (.ifCond .eq 14, 3) := by decide +kernel
theorem d_Mo_candidate_101 : decode c_Mo_candidate 101 = .ok (.iload 9, 2) := by decide +kernel
theorem d_Mo_candidate_103 : decode c_Mo_candidate 103 = .ok (.iload_n 3, 1) := by decide +kernel
theorem d_Mo_candidate_104 : decode c_Mo_candidate 104 = .ok (.imul, 1) := by decide +kernel
theorem d_Mo_candidate_105 : decode c_Mo_candidate 105 = .ok (.iload_n 2, 1) := by decide +kernel
theorem d_Mo_candidate_106 : decode c_Mo_candidate 106 = .ok (.iload 10, 2) := by decide +kernel
theorem d_Mo_candidate_108 : decode c_Mo_candidate 108 = .ok (.imul, 1) := by decide +kernel
theorem d_Mo_candidate_109 : decode c_Mo_candidate 109 = .ok (.if_icmp .ge 8, 3) := by decide +kernel
theorem d_Mo_candidate_112 : decode c_Mo_candidate 112 = .ok (.iload 8, 2) := by decide +kernel
theorem d_Mo_candidate_114 : decode c_Mo_candidate 114 = .ok (.goto 4, 3) := by decide +kernel
theorem d_Mo_candidate_117 : decode c_Mo_candidate 117 = .ok (.iconst (-1), 1) := by decide +kernel
theorem d_Mo_candidate_118 : decode c_Mo_candidate 118 = .ok (.istore 4, 2) := by decide +kernel
theorem d_Mo_candidate_120 : decode c_Mo_candidate 120 = .ok (.iload 4, 2) := by decide +kernel
theorem d_Mo_candidate_122 : decode c_Mo_candidate 122 = .ok (.iconst (-1), 1) := by decide +kernel
theorem d_Mo_candidate_123 : decode c_Mo_candidate 123 = .ok (.if_icmp .eq 8, 3) := by decide +kernel
theorem d_Mo_candidate_126 : decode c_Mo_candidate 126 = .ok (.iload 9, 2) := by decide +kernel
theorem d_Mo_candidate_128 : decode c_Mo_candidate 128 = .ok (.goto 4, 3) := by decide +kernel
theorem d_Mo_candidate_131 : decode c_Mo_candidate 131 = .ok (.iload_n 2, 1) := by decide +kernel
theorem d_Mo_candidate_132 : decode c_Mo_candidate 132 = .ok (.istore_n 2, 1) := by decide +kernel
theorem d_Mo_candidate_133 : decode c_Mo_candidate 133 = .ok (.iload 4, 2) := by decide +kernel
theorem d_Mo_candidate_135 : decode c_Mo_candidate 135 = .ok (.iconst (-1), 1) := by decide +kernel
theorem d_Mo_candidate_136 : decode c_Mo_candidate 136 = .ok (.if_icmp .eq 8, 3) := by decide +kernel
theorem d_Mo_candidate_139 : decode c_Mo_candidate 139 = .ok (.iload 10, 2) := by decide +kernel
theorem d_Mo_candidate_141 : decode c_Mo_candidate 141 = .ok (.goto 4, 3) := by decide +kernel
theorem d_Mo_candidate_144 : decode c_Mo_candidate 144 = .ok (.iload_n 3, 1) := by decide +kernel
theorem d_Mo_candidate_145 : decode c_Mo_candidate 145 = .ok (.istore_n 3, 1) := by decide +kernel
theorem d_Mo_candidate_146 : decode c_Mo_candidate 146 = .ok (.iinc 8 1, 3) := by decide +kernel
theorem d_Mo_candidate_149 : decode c_Mo_candidate 149 = .ok (.goto (-119), 3) := by decide +kernel
theorem d_Mo_candidate_152 : decode c_Mo_candidate 152 = .ok (.iload_n 2, 1) := by decide +kernel
theorem d_Mo_candidate_153 : decode c_Mo_candidate 153 = .ok (.istore 5, 2) := by decide +kernel
theorem d_Mo_candidate_155 : decode c_Mo_candidate 155 = .ok (.iload_n 3, 1) := by decide +kernel
theorem d_Mo_candidate_156 : decode c_Mo_candidate 156 = .ok (.istore 6, 2) := by decide +kernel
theorem d_Mo_candidate_158 : decode c_Mo_candidate 158 = .ok (.iload_n 3, 1) := by decide +kernel
theorem d_Mo_candidate_159 : decode c_Mo_candidate 159 = .ok (.ifCond .ne 5, 3) := by decide +kernel
theorem d_Mo_candidate_162 : decode c_Mo_candidate 162 = .ok (.iconst 0, 1) := by decide +kernel
theorem d_Mo_candidate_163 : decode c_Mo_candidate 163 = .ok (.ireturn, 1) := by decide +kernel
theorem d_Mo_candidate_164 : decode c_Mo_candidate 164 = .ok (.iinc 7 1, 3) := by decide +kernel
theorem d_Mo_candidate_167 : decode c_Mo_candidate 167 = .ok (.goto (-150), 3) := by decide +kernel
theorem d_Mo_candidate_170 : decode c_Mo_candidate 170 = .ok (.iload_n 1, 1) := by decide +kernel
theorem d_Mo_candidate_171 : decode c_Mo_candidate 171 = .ok (.ifCond .ne 7, 3) := by decide +kernel
theorem d_Mo_candidate_174 : decode c_Mo_candidate 174 = .ok (.iload_n 2, 1) := by decide +kernel
theorem d_Mo_candidate_175 : decode c_Mo_candidate 175 = .ok (.goto 4, 3) := by decide +kernel
theorem d_Mo_candidate_178 : decode c_Mo_candidate 178 = .ok (.iload_n 3, 1) := by decide +kernel
theorem d_Mo_candidate_179 : decode c_Mo_candidate 179 = .ok (.ireturn, 1) := by decide +kernel
set_option maxRecDepth 20000 in
theorem w_Mo_candidate_145 {X : HX} {ad : Nat → Nat} {I : HI} {J : HJ} {N : HN} {r : Int32} {k17 : Int32 → Int32 → Int32 → Int32 → Int32 → Option (Int32)} {k30 : Int32 → Int32 → Int32 → Int32 → Int32 → Int32 → Option (Int32)} {p0 : Int32} {p1 : Int32} {x2 : Int32} {x5 : Int32} {x6 : Int32} {x7 : Int32} {x8 : Int32} {s0 : Int32} (C : Cx X c_Mo_candidate RX11 12 (some .int) rm_Mo_candidate)
    (hk17 : ∀ (x2 : Int32) (x3 : Int32) (x5 : Int32) (x6 : Int32) (x7 : Int32), k17 x2 x3 x5 x6 x7 = some r → G Tm X ad nM 0 0 I J N (gE X Tm ad nM (I, J, N, fun _ => some (.int r))) 17 12 [(0, .int p0), (1, .int p1), (2, .int x2), (3, .int x3), (5, .int x5), (6, .int x6), (7, .int x7)] [])
    (hk30 : ∀ (x2 : Int32) (x3 : Int32) (x5 : Int32) (x6 : Int32) (x7 : Int32) (x8 : Int32), k30 x2 x3 x5 x6 x7 x8 = some r → G Tm X ad nM 0 0 I J N (gE X Tm ad nM (I, J, N, fun _ => some (.int r))) 30 12 [(0, .int p0), (1, .int p1), (2, .int x2), (3, .int x3), (5, .int x5), (6, .int x6), (7, .int x7), (8, .int x8)] [])
    (h : Mo_candidate_145 p0 p1 k17 k30 x2 x5 x6 x7 x8 s0 = some r) : G Tm X ad nM 0 0 I J N (gE X Tm ad nM (I, J, N, fun _ => some (.int r))) 145 12 [(0, .int p0), (1, .int p1), (2, .int x2), (5, .int x5), (6, .int x6), (7, .int x7), (8, .int x8)] [.int s0] := by
  refine g_istore_n (pc := 145) (lv' := [(3, .int s0), (0, .int p0), (1, .int p1), (2, .int x2), (5, .int x5), (6, .int x6), (7, .int x7), (8, .int x8)]) C d_Mo_candidate_145 rfl (by decide) rfl ?_
  refine g_iinc (pc := 146) (q := 7) (lv' := [(8, .int (x8 + 1)), (3, .int s0), (0, .int p0), (1, .int p1), (2, .int x2), (5, .int x5), (6, .int x6), (7, .int x7)]) C d_Mo_candidate_146 rfl rfl (by decide) rfl ?_
  refine g_goto (pc := 149) C 30 d_Mo_candidate_149 rfl ?_
  refine g_lv [2, 3, 4, 1, 5, 6, 7, 0] rfl ?_
  exact hk30 _ _ _ _ _ _ h
set_option maxRecDepth 20000 in
theorem w_Mo_candidate_132 {X : HX} {ad : Nat → Nat} {I : HI} {J : HJ} {N : HN} {r : Int32} {k17 : Int32 → Int32 → Int32 → Int32 → Int32 → Option (Int32)} {k30 : Int32 → Int32 → Int32 → Int32 → Int32 → Int32 → Option (Int32)} {p0 : Int32} {p1 : Int32} {x3 : Int32} {x4 : Int32} {x5 : Int32} {x6 : Int32} {x7 : Int32} {x8 : Int32} {x10 : Int32} {s0 : Int32} (C : Cx X c_Mo_candidate RX11 12 (some .int) rm_Mo_candidate)
    (hk17 : ∀ (x2 : Int32) (x3 : Int32) (x5 : Int32) (x6 : Int32) (x7 : Int32), k17 x2 x3 x5 x6 x7 = some r → G Tm X ad nM 0 0 I J N (gE X Tm ad nM (I, J, N, fun _ => some (.int r))) 17 12 [(0, .int p0), (1, .int p1), (2, .int x2), (3, .int x3), (5, .int x5), (6, .int x6), (7, .int x7)] [])
    (hk30 : ∀ (x2 : Int32) (x3 : Int32) (x5 : Int32) (x6 : Int32) (x7 : Int32) (x8 : Int32), k30 x2 x3 x5 x6 x7 x8 = some r → G Tm X ad nM 0 0 I J N (gE X Tm ad nM (I, J, N, fun _ => some (.int r))) 30 12 [(0, .int p0), (1, .int p1), (2, .int x2), (3, .int x3), (5, .int x5), (6, .int x6), (7, .int x7), (8, .int x8)] [])
    (h : Mo_candidate_132 p0 p1 k17 k30 x3 x4 x5 x6 x7 x8 x10 s0 = some r) : G Tm X ad nM 0 0 I J N (gE X Tm ad nM (I, J, N, fun _ => some (.int r))) 132 12 [(0, .int p0), (1, .int p1), (3, .int x3), (4, .int x4), (5, .int x5), (6, .int x6), (7, .int x7), (8, .int x8), (10, .int x10)] [.int s0] := by
  refine g_istore_n (pc := 132) (lv' := [(2, .int s0), (0, .int p0), (1, .int p1), (3, .int x3), (4, .int x4), (5, .int x5), (6, .int x6), (7, .int x7), (8, .int x8), (10, .int x10)]) C d_Mo_candidate_132 rfl (by decide) rfl ?_
  refine g_iload (pc := 133) C d_Mo_candidate_133 4 rfl ?_
  refine g_iconst (pc := 135) C (-1 : Int32) d_Mo_candidate_135 (by decide) ?_
  refine g_icmp_eq (pc := 136) C 144 d_Mo_candidate_136 rfl (fun e1 => ?_) (fun e1 => ?_)
  · have h := o_pos e1 h
    refine g_iload_n (pc := 144) C d_Mo_candidate_144 rfl 3 rfl ?_
    refine g_lv [1, 2, 0, 5, 6, 7, 8] rfl ?_
    exact w_Mo_candidate_145 C hk17 hk30 h
  · have h := o_neg e1 h
    refine g_iload (pc := 139) C d_Mo_candidate_139 9 rfl ?_
    refine g_goto (pc := 141) C 145 d_Mo_candidate_141 rfl ?_
    refine g_lv [1, 2, 0, 5, 6, 7, 8] rfl ?_
    exact w_Mo_candidate_145 C hk17 hk30 h
set_option maxRecDepth 20000 in
theorem w_Mo_candidate_118 {X : HX} {ad : Nat → Nat} {I : HI} {J : HJ} {N : HN} {r : Int32} {k17 : Int32 → Int32 → Int32 → Int32 → Int32 → Option (Int32)} {k30 : Int32 → Int32 → Int32 → Int32 → Int32 → Int32 → Option (Int32)} {p0 : Int32} {p1 : Int32} {x2 : Int32} {x3 : Int32} {x5 : Int32} {x6 : Int32} {x7 : Int32} {x8 : Int32} {x9 : Int32} {x10 : Int32} {s0 : Int32} (C : Cx X c_Mo_candidate RX11 12 (some .int) rm_Mo_candidate)
    (hk17 : ∀ (x2 : Int32) (x3 : Int32) (x5 : Int32) (x6 : Int32) (x7 : Int32), k17 x2 x3 x5 x6 x7 = some r → G Tm X ad nM 0 0 I J N (gE X Tm ad nM (I, J, N, fun _ => some (.int r))) 17 12 [(0, .int p0), (1, .int p1), (2, .int x2), (3, .int x3), (5, .int x5), (6, .int x6), (7, .int x7)] [])
    (hk30 : ∀ (x2 : Int32) (x3 : Int32) (x5 : Int32) (x6 : Int32) (x7 : Int32) (x8 : Int32), k30 x2 x3 x5 x6 x7 x8 = some r → G Tm X ad nM 0 0 I J N (gE X Tm ad nM (I, J, N, fun _ => some (.int r))) 30 12 [(0, .int p0), (1, .int p1), (2, .int x2), (3, .int x3), (5, .int x5), (6, .int x6), (7, .int x7), (8, .int x8)] [])
    (h : Mo_candidate_118 p0 p1 k17 k30 x2 x3 x5 x6 x7 x8 x9 x10 s0 = some r) : G Tm X ad nM 0 0 I J N (gE X Tm ad nM (I, J, N, fun _ => some (.int r))) 118 12 [(0, .int p0), (1, .int p1), (2, .int x2), (3, .int x3), (5, .int x5), (6, .int x6), (7, .int x7), (8, .int x8), (9, .int x9), (10, .int x10)] [.int s0] := by
  refine g_istore (pc := 118) (lv' := [(4, .int s0), (0, .int p0), (1, .int p1), (2, .int x2), (3, .int x3), (5, .int x5), (6, .int x6), (7, .int x7), (8, .int x8), (9, .int x9), (10, .int x10)]) C d_Mo_candidate_118 (by decide) rfl ?_
  refine g_iload (pc := 120) C d_Mo_candidate_120 0 rfl ?_
  refine g_iconst (pc := 122) C (-1 : Int32) d_Mo_candidate_122 (by decide) ?_
  refine g_icmp_eq (pc := 123) C 131 d_Mo_candidate_123 rfl (fun e1 => ?_) (fun e1 => ?_)
  · have h := o_pos e1 h
    refine g_iload_n (pc := 131) C d_Mo_candidate_131 rfl 3 rfl ?_
    refine g_lv [1, 2, 4, 0, 5, 6, 7, 8, 10] rfl ?_
    exact w_Mo_candidate_132 C hk17 hk30 h
  · have h := o_neg e1 h
    refine g_iload (pc := 126) C d_Mo_candidate_126 9 rfl ?_
    refine g_goto (pc := 128) C 132 d_Mo_candidate_128 rfl ?_
    refine g_lv [1, 2, 4, 0, 5, 6, 7, 8, 10] rfl ?_
    exact w_Mo_candidate_132 C hk17 hk30 h
set_option maxRecDepth 20000 in
theorem w_Mo_candidate_117 {X : HX} {ad : Nat → Nat} {I : HI} {J : HJ} {N : HN} {r : Int32} {k17 : Int32 → Int32 → Int32 → Int32 → Int32 → Option (Int32)} {k30 : Int32 → Int32 → Int32 → Int32 → Int32 → Int32 → Option (Int32)} {p0 : Int32} {p1 : Int32} {x2 : Int32} {x3 : Int32} {x5 : Int32} {x6 : Int32} {x7 : Int32} {x8 : Int32} {x9 : Int32} {x10 : Int32} (C : Cx X c_Mo_candidate RX11 12 (some .int) rm_Mo_candidate)
    (hk17 : ∀ (x2 : Int32) (x3 : Int32) (x5 : Int32) (x6 : Int32) (x7 : Int32), k17 x2 x3 x5 x6 x7 = some r → G Tm X ad nM 0 0 I J N (gE X Tm ad nM (I, J, N, fun _ => some (.int r))) 17 12 [(0, .int p0), (1, .int p1), (2, .int x2), (3, .int x3), (5, .int x5), (6, .int x6), (7, .int x7)] [])
    (hk30 : ∀ (x2 : Int32) (x3 : Int32) (x5 : Int32) (x6 : Int32) (x7 : Int32) (x8 : Int32), k30 x2 x3 x5 x6 x7 x8 = some r → G Tm X ad nM 0 0 I J N (gE X Tm ad nM (I, J, N, fun _ => some (.int r))) 30 12 [(0, .int p0), (1, .int p1), (2, .int x2), (3, .int x3), (5, .int x5), (6, .int x6), (7, .int x7), (8, .int x8)] [])
    (h : Mo_candidate_117 p0 p1 k17 k30 x2 x3 x5 x6 x7 x8 x9 x10 = some r) : G Tm X ad nM 0 0 I J N (gE X Tm ad nM (I, J, N, fun _ => some (.int r))) 117 12 [(0, .int p0), (1, .int p1), (2, .int x2), (3, .int x3), (5, .int x5), (6, .int x6), (7, .int x7), (8, .int x8), (9, .int x9), (10, .int x10)] [] := by
  refine g_iconst (pc := 117) C (-1 : Int32) d_Mo_candidate_117 (by decide) ?_
  refine g_lv [0, 1, 2, 3, 4, 5, 6, 7, 8, 9] rfl ?_
  exact w_Mo_candidate_118 C hk17 hk30 h
set_option maxRecDepth 20000 in
theorem w_Mo_candidate_112 {X : HX} {ad : Nat → Nat} {I : HI} {J : HJ} {N : HN} {r : Int32} {k17 : Int32 → Int32 → Int32 → Int32 → Int32 → Option (Int32)} {k30 : Int32 → Int32 → Int32 → Int32 → Int32 → Int32 → Option (Int32)} {p0 : Int32} {p1 : Int32} {x2 : Int32} {x3 : Int32} {x5 : Int32} {x6 : Int32} {x7 : Int32} {x8 : Int32} {x9 : Int32} {x10 : Int32} (C : Cx X c_Mo_candidate RX11 12 (some .int) rm_Mo_candidate)
    (hk17 : ∀ (x2 : Int32) (x3 : Int32) (x5 : Int32) (x6 : Int32) (x7 : Int32), k17 x2 x3 x5 x6 x7 = some r → G Tm X ad nM 0 0 I J N (gE X Tm ad nM (I, J, N, fun _ => some (.int r))) 17 12 [(0, .int p0), (1, .int p1), (2, .int x2), (3, .int x3), (5, .int x5), (6, .int x6), (7, .int x7)] [])
    (hk30 : ∀ (x2 : Int32) (x3 : Int32) (x5 : Int32) (x6 : Int32) (x7 : Int32) (x8 : Int32), k30 x2 x3 x5 x6 x7 x8 = some r → G Tm X ad nM 0 0 I J N (gE X Tm ad nM (I, J, N, fun _ => some (.int r))) 30 12 [(0, .int p0), (1, .int p1), (2, .int x2), (3, .int x3), (5, .int x5), (6, .int x6), (7, .int x7), (8, .int x8)] [])
    (h : Mo_candidate_112 p0 p1 k17 k30 x2 x3 x5 x6 x7 x8 x9 x10 = some r) : G Tm X ad nM 0 0 I J N (gE X Tm ad nM (I, J, N, fun _ => some (.int r))) 112 12 [(0, .int p0), (1, .int p1), (2, .int x2), (3, .int x3), (5, .int x5), (6, .int x6), (7, .int x7), (8, .int x8), (9, .int x9), (10, .int x10)] [] := by
  refine g_iload (pc := 112) C d_Mo_candidate_112 7 rfl ?_
  refine g_goto (pc := 114) C 118 d_Mo_candidate_114 rfl ?_
  refine g_lv [0, 1, 2, 3, 4, 5, 6, 7, 8, 9] rfl ?_
  exact w_Mo_candidate_118 C hk17 hk30 h
set_option maxRecDepth 20000 in
theorem w_Mo_candidate_90 {X : HX} {ad : Nat → Nat} {I : HI} {J : HJ} {N : HN} {r : Int32} {k17 : Int32 → Int32 → Int32 → Int32 → Int32 → Option (Int32)} {k30 : Int32 → Int32 → Int32 → Int32 → Int32 → Int32 → Option (Int32)} {p0 : Int32} {p1 : Int32} {x2 : Int32} {x3 : Int32} {x5 : Int32} {x6 : Int32} {x7 : Int32} {x8 : Int32} {x9 : Int32} {x10 : Int32} {s0 : Int32} (C : Cx X c_Mo_candidate RX11 12 (some .int) rm_Mo_candidate)
    (hk17 : ∀ (x2 : Int32) (x3 : Int32) (x5 : Int32) (x6 : Int32) (x7 : Int32), k17 x2 x3 x5 x6 x7 = some r → G Tm X ad nM 0 0 I J N (gE X Tm ad nM (I, J, N, fun _ => some (.int r))) 17 12 [(0, .int p0), (1, .int p1), (2, .int x2), (3, .int x3), (5, .int x5), (6, .int x6), (7, .int x7)] [])
    (hk30 : ∀ (x2 : Int32) (x3 : Int32) (x5 : Int32) (x6 : Int32) (x7 : Int32) (x8 : Int32), k30 x2 x3 x5 x6 x7 x8 = some r → G Tm X ad nM 0 0 I J N (gE X Tm ad nM (I, J, N, fun _ => some (.int r))) 30 12 [(0, .int p0), (1, .int p1), (2, .int x2), (3, .int x3), (5, .int x5), (6, .int x6), (7, .int x7), (8, .int x8)] [])
    (h : Mo_candidate_90 p0 p1 k17 k30 x2 x3 x5 x6 x7 x8 x9 x10 s0 = some r) : G Tm X ad nM 0 0 I J N (gE X Tm ad nM (I, J, N, fun _ => some (.int r))) 90 12 [(0, .int p0), (1, .int p1), (2, .int x2), (3, .int x3), (5, .int x5), (6, .int x6), (7, .int x7), (8, .int x8), (9, .int x9), (10, .int x10)] [.int s0] := by
  refine g_istore (pc := 90) (lv' := [(11, .int s0), (0, .int p0), (1, .int p1), (2, .int x2), (3, .int x3), (5, .int x5), (6, .int x6), (7, .int x7), (8, .int x8), (9, .int x9), (10, .int x10)]) C d_Mo_candidate_90 (by decide) rfl ?_
  refine g_iload (pc := 92) C d_Mo_candidate_92 0 rfl ?_
  refine g_if_eq (pc := 94) C 117 d_Mo_candidate_94 rfl (fun e1 => ?_) (fun e1 => ?_)
  · have h := o_pos e1 h
    refine g_lv [1, 2, 3, 4, 5, 6, 7, 8, 9, 10] rfl ?_
    exact w_Mo_candidate_117 C hk17 hk30 h
  · have h := o_neg e1 h
    refine g_iload_n (pc := 97) C d_Mo_candidate_97 rfl 4 rfl ?_
    refine g_if_eq (pc := 98) C 112 d_Mo_candidate_98 rfl (fun e2 => ?_) (fun e2 => ?_)
    · have h := o_pos e2 h
      refine g_lv [1, 2, 3, 4, 5, 6, 7, 8, 9, 10] rfl ?_
      exact w_Mo_candidate_112 C hk17 hk30 h
    · have h := o_neg e2 h
      refine g_iload (pc := 101) C d_Mo_candidate_101 9 rfl ?_
      refine g_iload_n (pc := 103) C d_Mo_candidate_103 rfl 4 rfl ?_
      refine g_imul (pc := 104) C d_Mo_candidate_104 ?_
      refine g_iload_n (pc := 105) C d_Mo_candidate_105 rfl 3 rfl ?_
      refine g_iload (pc := 106) C d_Mo_candidate_106 10 rfl ?_
      refine g_imul (pc := 108) C d_Mo_candidate_108 ?_
      refine g_icmp_ge (pc := 109) C 117 d_Mo_candidate_109 rfl (fun e3 => ?_) (fun e3 => ?_)
      · have h := o_pos e3 h
        refine g_lv [1, 2, 3, 4, 5, 6, 7, 8, 9, 10] rfl ?_
        exact w_Mo_candidate_117 C hk17 hk30 h
      · have h := o_neg e3 h
        refine g_lv [1, 2, 3, 4, 5, 6, 7, 8, 9, 10] rfl ?_
        exact w_Mo_candidate_112 C hk17 hk30 h
set_option maxRecDepth 20000 in
theorem w_Mo_candidate_60 {X : HX} {ad : Nat → Nat} {I : HI} {J : HJ} {N : HN} {r : Int32} {k17 : Int32 → Int32 → Int32 → Int32 → Int32 → Option (Int32)} {k30 : Int32 → Int32 → Int32 → Int32 → Int32 → Int32 → Option (Int32)} {p0 : Int32} {p1 : Int32} {x2 : Int32} {x3 : Int32} {x5 : Int32} {x6 : Int32} {x7 : Int32} {x8 : Int32} {s0 : Int32} {s1 : Int32} (C : Cx X c_Mo_candidate RX11 12 (some .int) rm_Mo_candidate)
    (hk17 : ∀ (x2 : Int32) (x3 : Int32) (x5 : Int32) (x6 : Int32) (x7 : Int32), k17 x2 x3 x5 x6 x7 = some r → G Tm X ad nM 0 0 I J N (gE X Tm ad nM (I, J, N, fun _ => some (.int r))) 17 12 [(0, .int p0), (1, .int p1), (2, .int x2), (3, .int x3), (5, .int x5), (6, .int x6), (7, .int x7)] [])
    (hk30 : ∀ (x2 : Int32) (x3 : Int32) (x5 : Int32) (x6 : Int32) (x7 : Int32) (x8 : Int32), k30 x2 x3 x5 x6 x7 x8 = some r → G Tm X ad nM 0 0 I J N (gE X Tm ad nM (I, J, N, fun _ => some (.int r))) 30 12 [(0, .int p0), (1, .int p1), (2, .int x2), (3, .int x3), (5, .int x5), (6, .int x6), (7, .int x7), (8, .int x8)] [])
    (h : Mo_candidate_60 p0 p1 k17 k30 x2 x3 x5 x6 x7 x8 s0 s1 = some r) : G Tm X ad nM 0 0 I J N (gE X Tm ad nM (I, J, N, fun _ => some (.int r))) 60 12 [(0, .int p0), (1, .int p1), (2, .int x2), (3, .int x3), (5, .int x5), (6, .int x6), (7, .int x7), (8, .int x8)] [.int s1, .int s0] := by
  refine g_imul (pc := 60) C d_Mo_candidate_60 ?_
  obtain ⟨v1, ev1, h⟩ := o_bd h
  refine g_topi ev1 ?_
  refine g_istore (pc := 61) (lv' := [(9, .int v1), (0, .int p0), (1, .int p1), (2, .int x2), (3, .int x3), (5, .int x5), (6, .int x6), (7, .int x7), (8, .int x8)]) C d_Mo_candidate_61 (by decide) rfl ?_
  refine g_iload (pc := 63) C d_Mo_candidate_63 8 rfl ?_
  refine g_bipush (pc := 65) C (9 : Int32) d_Mo_candidate_65 (by decide) ?_
  refine g_irem (pc := 67) C d_Mo_candidate_67 (by decide) ?_
  refine g_iconst (pc := 68) C (1 : Int32) d_Mo_candidate_68 (by decide) ?_
  refine g_iadd (pc := 69) C d_Mo_candidate_69 ?_
  obtain ⟨v2, ev2, h⟩ := o_bd h
  refine g_topi ev2 ?_
  refine g_istore (pc := 70) (lv' := [(10, .int v2), (9, .int v1), (0, .int p0), (1, .int p1), (2, .int x2), (3, .int x3), (5, .int x5), (6, .int x6), (7, .int x7), (8, .int x8)]) C d_Mo_candidate_70 (by decide) rfl ?_
  refine g_iload (pc := 72) C d_Mo_candidate_72 1 rfl ?_
  refine g_iload (pc := 74) C d_Mo_candidate_74 7 rfl ?_
  refine g_imul (pc := 76) C d_Mo_candidate_76 ?_
  refine g_iload (pc := 77) C d_Mo_candidate_77 6 rfl ?_
  refine g_iload (pc := 79) C d_Mo_candidate_79 0 rfl ?_
  refine g_imul (pc := 81) C d_Mo_candidate_81 ?_
  refine g_icmp_le (pc := 82) C 89 d_Mo_candidate_82 rfl (fun e3 => ?_) (fun e3 => ?_)
  · have h := o_pos e3 h
    refine g_iconst (pc := 89) C (0 : Int32) d_Mo_candidate_89 (by decide) ?_
    refine g_lv [2, 3, 4, 5, 6, 7, 8, 9, 1, 0] rfl ?_
    exact w_Mo_candidate_90 C hk17 hk30 h
  · have h := o_neg e3 h
    refine g_iconst (pc := 85) C (1 : Int32) d_Mo_candidate_85 (by decide) ?_
    refine g_goto (pc := 86) C 90 d_Mo_candidate_86 rfl ?_
    refine g_lv [2, 3, 4, 5, 6, 7, 8, 9, 1, 0] rfl ?_
    exact w_Mo_candidate_90 C hk17 hk30 h
set_option maxRecDepth 20000 in
theorem w_Mo_candidate_30b {X : HX} {ad : Nat → Nat} {I : HI} {J : HJ} {N : HN} {r : Int32} {k17 : Int32 → Int32 → Int32 → Int32 → Int32 → Option (Int32)} {k30 : Int32 → Int32 → Int32 → Int32 → Int32 → Int32 → Option (Int32)} {p0 : Int32} {p1 : Int32} {x2 : Int32} {x3 : Int32} {x5 : Int32} {x6 : Int32} {x7 : Int32} {x8 : Int32} (C : Cx X c_Mo_candidate RX11 12 (some .int) rm_Mo_candidate)
    (hk17 : ∀ (x2 : Int32) (x3 : Int32) (x5 : Int32) (x6 : Int32) (x7 : Int32), k17 x2 x3 x5 x6 x7 = some r → G Tm X ad nM 0 0 I J N (gE X Tm ad nM (I, J, N, fun _ => some (.int r))) 17 12 [(0, .int p0), (1, .int p1), (2, .int x2), (3, .int x3), (5, .int x5), (6, .int x6), (7, .int x7)] [])
    (hk30 : ∀ (x2 : Int32) (x3 : Int32) (x5 : Int32) (x6 : Int32) (x7 : Int32) (x8 : Int32), k30 x2 x3 x5 x6 x7 x8 = some r → G Tm X ad nM 0 0 I J N (gE X Tm ad nM (I, J, N, fun _ => some (.int r))) 30 12 [(0, .int p0), (1, .int p1), (2, .int x2), (3, .int x3), (5, .int x5), (6, .int x6), (7, .int x7), (8, .int x8)] [])
    (h : Mo_candidate_30b p0 p1 k17 k30 x2 x3 x5 x6 x7 x8 = some r) : G Tm X ad nM 0 0 I J N (gE X Tm ad nM (I, J, N, fun _ => some (.int r))) 30 12 [(0, .int p0), (1, .int p1), (2, .int x2), (3, .int x3), (5, .int x5), (6, .int x6), (7, .int x7), (8, .int x8)] [] := by
  refine g_iload (pc := 30) C d_Mo_candidate_30 7 rfl ?_
  refine g_sipush (pc := 32) C (162 : Int32) d_Mo_candidate_32 (by decide) ?_
  refine g_icmp_ge (pc := 35) C 152 d_Mo_candidate_35 rfl (fun e1 => ?_) (fun e1 => ?_)
  · have h := o_pos e1 h
    refine g_iload_n (pc := 152) C d_Mo_candidate_152 rfl 2 rfl ?_
    refine g_istore (pc := 153) (lv' := [(5, .int x2), (0, .int p0), (1, .int p1), (2, .int x2), (3, .int x3), (6, .int x6), (7, .int x7), (8, .int x8)]) C d_Mo_candidate_153 (by decide) rfl ?_
    refine g_iload_n (pc := 155) C d_Mo_candidate_155 rfl 4 rfl ?_
    refine g_istore (pc := 156) (lv' := [(6, .int x3), (5, .int x2), (0, .int p0), (1, .int p1), (2, .int x2), (3, .int x3), (7, .int x7), (8, .int x8)]) C d_Mo_candidate_156 (by decide) rfl ?_
    refine g_iload_n (pc := 158) C d_Mo_candidate_158 rfl 5 rfl ?_
    refine g_if_ne (pc := 159) C 164 d_Mo_candidate_159 rfl (fun e2 => ?_) (fun e2 => ?_)
    · have h := o_neg e2 h
      refine g_iinc (pc := 164) (q := 6) (lv' := [(7, .int (x7 + 1)), (6, .int x3), (5, .int x2), (0, .int p0), (1, .int p1), (2, .int x2), (3, .int x3), (8, .int x8)]) C d_Mo_candidate_164 rfl rfl (by decide) rfl ?_
      refine g_goto (pc := 167) C 17 d_Mo_candidate_167 rfl ?_
      refine g_lv [3, 4, 5, 6, 2, 1, 0] rfl ?_
      exact hk17 _ _ _ _ _ h
    · have h := o_pos e2 h
      refine g_iconst (pc := 162) C (0 : Int32) d_Mo_candidate_162 (by decide) ?_
      obtain rfl := o_ret h
      exact g_iret (pc := 163) C d_Mo_candidate_163
  · have h := o_neg e1 h
    refine g_iload (pc := 38) C d_Mo_candidate_38 7 rfl ?_
    refine g_bipush (pc := 40) C (81 : Int32) d_Mo_candidate_40 (by decide) ?_
    refine g_irem (pc := 42) C d_Mo_candidate_42 (by decide) ?_
    refine g_bipush (pc := 43) C (9 : Int32) d_Mo_candidate_43 (by decide) ?_
    refine g_idiv (pc := 45) C d_Mo_candidate_45 (by decide) ?_
    refine g_iconst (pc := 46) C (1 : Int32) d_Mo_candidate_46 (by decide) ?_
    refine g_iadd (pc := 47) C d_Mo_candidate_47 ?_
    refine g_iload (pc := 48) C d_Mo_candidate_48 7 rfl ?_
    refine g_bipush (pc := 50) C (81 : Int32) d_Mo_candidate_50 (by decide) ?_
    refine g_icmp_ge (pc := 52) C 59 d_Mo_candidate_52 rfl (fun e3 => ?_) (fun e3 => ?_)
    · have h := o_pos e3 h
      refine g_iconst (pc := 59) C (1 : Int32) d_Mo_candidate_59 (by decide) ?_
      refine g_lv [0, 1, 2, 3, 4, 5, 6, 7] rfl ?_
      exact w_Mo_candidate_60 C hk17 hk30 h
    · have h := o_neg e3 h
      refine g_iconst (pc := 55) C (-1 : Int32) d_Mo_candidate_55 (by decide) ?_
      refine g_goto (pc := 56) C 60 d_Mo_candidate_56 rfl ?_
      refine g_lv [0, 1, 2, 3, 4, 5, 6, 7] rfl ?_
      exact w_Mo_candidate_60 C hk17 hk30 h
set_option maxRecDepth 20000 in
theorem w_Mo_candidate_30 {X : HX} {ad : Nat → Nat} {I : HI} {J : HJ} {N : HN} {r : Int32} {k17 : Int32 → Int32 → Int32 → Int32 → Int32 → Option (Int32)} {p0 : Int32} {p1 : Int32} (C : Cx X c_Mo_candidate RX11 12 (some .int) rm_Mo_candidate)
    (hk17 : ∀ (x2 : Int32) (x3 : Int32) (x5 : Int32) (x6 : Int32) (x7 : Int32), k17 x2 x3 x5 x6 x7 = some r → G Tm X ad nM 0 0 I J N (gE X Tm ad nM (I, J, N, fun _ => some (.int r))) 17 12 [(0, .int p0), (1, .int p1), (2, .int x2), (3, .int x3), (5, .int x5), (6, .int x6), (7, .int x7)] []) : ∀ (n : Nat) (x2 : Int32) (x3 : Int32) (x5 : Int32) (x6 : Int32) (x7 : Int32) (x8 : Int32), Mo_candidate_30 p0 p1 k17 n x2 x3 x5 x6 x7 x8 = some r → G Tm X ad nM 0 0 I J N (gE X Tm ad nM (I, J, N, fun _ => some (.int r))) 30 12 [(0, .int p0), (1, .int p1), (2, .int x2), (3, .int x3), (5, .int x5), (6, .int x6), (7, .int x7), (8, .int x8)] [] := by
  intro n
  induction n with
  | zero => intro x2 x3 x5 x6 x7 x8 h; cases h
  | succ n ih => intro x2 x3 x5 x6 x7 x8 h; exact w_Mo_candidate_30b C hk17 ih h
set_option maxRecDepth 20000 in
theorem w_Mo_candidate_17b {X : HX} {ad : Nat → Nat} {I : HI} {J : HJ} {N : HN} {r : Int32} {k17 : Int32 → Int32 → Int32 → Int32 → Int32 → Option (Int32)} {p0 : Int32} {p1 : Int32} {x2 : Int32} {x3 : Int32} {x5 : Int32} {x6 : Int32} {x7 : Int32} (C : Cx X c_Mo_candidate RX11 12 (some .int) rm_Mo_candidate)
    (hk17 : ∀ (x2 : Int32) (x3 : Int32) (x5 : Int32) (x6 : Int32) (x7 : Int32), k17 x2 x3 x5 x6 x7 = some r → G Tm X ad nM 0 0 I J N (gE X Tm ad nM (I, J, N, fun _ => some (.int r))) 17 12 [(0, .int p0), (1, .int p1), (2, .int x2), (3, .int x3), (5, .int x5), (6, .int x6), (7, .int x7)] [])
    (h : Mo_candidate_17b p0 p1 k17 x2 x3 x5 x6 x7 = some r) : G Tm X ad nM 0 0 I J N (gE X Tm ad nM (I, J, N, fun _ => some (.int r))) 17 12 [(0, .int p0), (1, .int p1), (2, .int x2), (3, .int x3), (5, .int x5), (6, .int x6), (7, .int x7)] [] := by
  refine g_iload (pc := 17) C d_Mo_candidate_17 6 rfl ?_
  refine g_iload_n (pc := 19) C d_Mo_candidate_19 rfl 0 rfl ?_
  refine g_icmp_gt (pc := 20) C 170 d_Mo_candidate_20 rfl (fun e1 => ?_) (fun e1 => ?_)
  · have h := o_pos e1 h
    refine g_iload_n (pc := 170) C d_Mo_candidate_170 rfl 1 rfl ?_
    refine g_if_ne (pc := 171) C 178 d_Mo_candidate_171 rfl (fun e2 => ?_) (fun e2 => ?_)
    · have h := o_neg e2 h
      refine g_iload_n (pc := 178) C d_Mo_candidate_178 rfl 3 rfl ?_
      obtain rfl := o_ret h
      exact g_iret (pc := 179) C d_Mo_candidate_179
    · have h := o_pos e2 h
      refine g_iload_n (pc := 174) C d_Mo_candidate_174 rfl 2 rfl ?_
      refine g_goto (pc := 175) C 179 d_Mo_candidate_175 rfl ?_
      obtain rfl := o_ret h
      exact g_iret (pc := 179) C d_Mo_candidate_179
  · have h := o_neg e1 h
    refine g_iconst (pc := 23) C (0 : Int32) d_Mo_candidate_23 (by decide) ?_
    refine g_istore_n (pc := 24) (lv' := [(2, .int (0 : Int32)), (0, .int p0), (1, .int p1), (3, .int x3), (5, .int x5), (6, .int x6), (7, .int x7)]) C d_Mo_candidate_24 rfl (by decide) rfl ?_
    refine g_iconst (pc := 25) C (0 : Int32) d_Mo_candidate_25 (by decide) ?_
    refine g_istore_n (pc := 26) (lv' := [(3, .int (0 : Int32)), (2, .int (0 : Int32)), (0, .int p0), (1, .int p1), (5, .int x5), (6, .int x6), (7, .int x7)]) C d_Mo_candidate_26 rfl (by decide) rfl ?_
    refine g_iconst (pc := 27) C (0 : Int32) d_Mo_candidate_27 (by decide) ?_
    refine g_istore (pc := 28) (lv' := [(8, .int (0 : Int32)), (3, .int (0 : Int32)), (2, .int (0 : Int32)), (0, .int p0), (1, .int p1), (5, .int x5), (6, .int x6), (7, .int x7)]) C d_Mo_candidate_28 (by decide) rfl ?_
    refine g_lv [3, 4, 2, 1, 5, 6, 7, 0] rfl ?_
    exact w_Mo_candidate_30 C hk17 _ _ _ _ _ _ _ h
set_option maxRecDepth 20000 in
theorem w_Mo_candidate_17 {X : HX} {ad : Nat → Nat} {I : HI} {J : HJ} {N : HN} {r : Int32} {p0 : Int32} {p1 : Int32} (C : Cx X c_Mo_candidate RX11 12 (some .int) rm_Mo_candidate) : ∀ (n : Nat) (x2 : Int32) (x3 : Int32) (x5 : Int32) (x6 : Int32) (x7 : Int32), Mo_candidate_17 p0 p1 n x2 x3 x5 x6 x7 = some r → G Tm X ad nM 0 0 I J N (gE X Tm ad nM (I, J, N, fun _ => some (.int r))) 17 12 [(0, .int p0), (1, .int p1), (2, .int x2), (3, .int x3), (5, .int x5), (6, .int x6), (7, .int x7)] [] := by
  intro n
  induction n with
  | zero => intro x2 x3 x5 x6 x7 h; cases h
  | succ n ih => intro x2 x3 x5 x6 x7 h; exact w_Mo_candidate_17b C ih h
set_option maxRecDepth 20000 in
theorem w_Mo_candidate_0 {X : HX} {ad : Nat → Nat} {I : HI} {J : HJ} {N : HN} {r : Int32} {p0 : Int32} {p1 : Int32} (C : Cx X c_Mo_candidate RX11 12 (some .int) rm_Mo_candidate)
    (h : Mo_candidate_0 p0 p1 = some r) : G Tm X ad nM 0 0 I J N (gE X Tm ad nM (I, J, N, fun _ => some (.int r))) 0 12 [(0, .int p0), (1, .int p1)] [] := by
  refine g_iconst (pc := 0) C (0 : Int32) d_Mo_candidate_0 (by decide) ?_
  refine g_istore_n (pc := 1) (lv' := [(2, .int (0 : Int32)), (0, .int p0), (1, .int p1)]) C d_Mo_candidate_1 rfl (by decide) rfl ?_
  refine g_iconst (pc := 2) C (0 : Int32) d_Mo_candidate_2 (by decide) ?_
  refine g_istore_n (pc := 3) (lv' := [(3, .int (0 : Int32)), (2, .int (0 : Int32)), (0, .int p0), (1, .int p1)]) C d_Mo_candidate_3 rfl (by decide) rfl ?_
  refine g_iconst (pc := 4) C (0 : Int32) d_Mo_candidate_4 (by decide) ?_
  refine g_istore (pc := 5) (lv' := [(4, .int (0 : Int32)), (3, .int (0 : Int32)), (2, .int (0 : Int32)), (0, .int p0), (1, .int p1)]) C d_Mo_candidate_5 (by decide) rfl ?_
  refine g_bipush (pc := 7) C (-10 : Int32) d_Mo_candidate_7 (by decide) ?_
  refine g_istore (pc := 9) (lv' := [(5, .int (-10 : Int32)), (4, .int (0 : Int32)), (3, .int (0 : Int32)), (2, .int (0 : Int32)), (0, .int p0), (1, .int p1)]) C d_Mo_candidate_9 (by decide) rfl ?_
  refine g_iconst (pc := 11) C (1 : Int32) d_Mo_candidate_11 (by decide) ?_
  refine g_istore (pc := 12) (lv' := [(6, .int (1 : Int32)), (5, .int (-10 : Int32)), (4, .int (0 : Int32)), (3, .int (0 : Int32)), (2, .int (0 : Int32)), (0, .int p0), (1, .int p1)]) C d_Mo_candidate_12 (by decide) rfl ?_
  refine g_iconst (pc := 14) C (0 : Int32) d_Mo_candidate_14 (by decide) ?_
  refine g_istore (pc := 15) (lv' := [(7, .int (0 : Int32)), (6, .int (1 : Int32)), (5, .int (-10 : Int32)), (4, .int (0 : Int32)), (3, .int (0 : Int32)), (2, .int (0 : Int32)), (0, .int p0), (1, .int p1)]) C d_Mo_candidate_15 (by decide) rfl ?_
  refine g_lv [6, 7, 5, 4, 2, 1, 0] rfl ?_
  exact w_Mo_candidate_17 C _ _ _ _ _ _ h
set_option maxRecDepth 20000 in
theorem k_Mo_candidate (l : Launch) {I : HI} {J : HJ} {N : HN} {p0 : Int32} {p1 : Int32} {r : Int32} (h : Mo_candidate p0 p1 = some r) : gM l y_Mo_candidate c_Mo_candidate 12 (some .int) rm_Mo_candidate Tm nM I J N (fun ad => [.int p0, .int p1]) (I, J, N, fun _ => some (.int r)) :=
  g_meth (lv := fun ad => [(0, .int p0), (1, .int p1)]) (by decide) (fun _ => Nat.le_of_ble_eq_true rfl) (fun _ => rfl) (fun X ad C => g_lv [0, 1] rfl (w_Mo_candidate_0 C  h))
theorem d_Mo_candidates_0 : decode c_Mo_candidates 0 = .ok (.aload_n 0, 1) := by decide +kernel
theorem d_Mo_candidates_1 : decode c_Mo_candidates 1 = .ok (.getfield 221, 3) := by decide +kernel
theorem d_Mo_candidates_4 : decode c_Mo_candidates 4 = .ok (.ifCond .le 4, 3) := by decide +kernel
theorem d_Mo_candidates_7 : decode c_Mo_candidates 7 = .ok (.return_, 1) := by decide +kernel
theorem d_Mo_candidates_8 : decode c_Mo_candidates 8 = .ok (.iconst 0, 1) := by decide +kernel
theorem d_Mo_candidates_9 : decode c_Mo_candidates 9 = .ok (.istore_n 1, 1) := by decide +kernel
theorem d_Mo_candidates_10 : decode c_Mo_candidates 10 = .ok (.iload_n 1, 1) := by decide +kernel
theorem d_Mo_candidates_11 : decode c_Mo_candidates 11 = .ok (.bipush 120, 2) := by decide +kernel
theorem d_Mo_candidates_13 : decode c_Mo_candidates 13 = .ok (.if_icmp .ge 48, 3) := by decide +kernel
theorem d_Mo_candidates_16 : decode c_Mo_candidates 16 = .ok (.iload_n 1, 1) := by decide +kernel
theorem d_Mo_candidates_17 : decode c_Mo_candidates 17 = .ok (.iconst 1, 1) := by decide +kernel
theorem d_Mo_candidates_18 : decode c_Mo_candidates 18 = .ok (.invokestatic 224, 3) := by decide +kernel
theorem d_Mo_candidates_21 : decode c_Mo_candidates 21 = .ok (.istore_n 2, 1) := by decide +kernel
theorem d_Mo_candidates_22 : decode c_Mo_candidates 22 = .ok (.iload_n 2, 1) := by decide +kernel
theorem d_Mo_candidates_23 : decode c_Mo_candidates 23 = .ok (.ifCond .ne 4, 3) := by decide +kernel
theorem d_Mo_candidates_26 : decode c_Mo_candidates 26 = .ok (.return_, 1) := by decide +kernel
theorem d_Mo_candidates_27 : decode c_Mo_candidates 27 = .ok (.aload_n 0, 1) := by decide +kernel
theorem d_Mo_candidates_28 : decode c_Mo_candidates 28 = .ok (.getfield 47, 3) := by decide +kernel
theorem d_Mo_candidates_31 : decode c_Mo_candidates 31 = .ok (.iload_n 1, 1) := by decide +kernel
theorem d_Mo_candidates_32 : decode c_Mo_candidates 32 = .ok (.iload_n 1, 1) := by decide +kernel
theorem d_Mo_candidates_33 : decode c_Mo_candidates 33 = .ok (.iconst 0, 1) := by decide +kernel
theorem d_Mo_candidates_34 : decode c_Mo_candidates 34 = .ok (.invokestatic 224, 3) := by decide +kernel
theorem d_Mo_candidates_37 : decode c_Mo_candidates 37 = .ok (.iastore, 1) := by decide +kernel
theorem d_Mo_candidates_38 : decode c_Mo_candidates 38 = .ok (.aload_n 0, 1) := by decide +kernel
theorem d_Mo_candidates_39 : decode c_Mo_candidates 39 = .ok (.getfield 50, 3) := by decide +kernel
theorem d_Mo_candidates_42 : decode c_Mo_candidates 42 = .ok (.iload_n 1, 1) := by decide +kernel
theorem d_Mo_candidates_43 : decode c_Mo_candidates 43 = .ok (.iload_n 2, 1) := by decide +kernel
theorem d_Mo_candidates_44 : decode c_Mo_candidates 44 = .ok (.iastore, 1) := by decide +kernel
theorem d_Mo_candidates_45 : decode c_Mo_candidates 45 = .ok (.aload_n 0, 1) := by decide +kernel
theorem d_Mo_candidates_46 : decode c_Mo_candidates 46 = .ok (.dup, 1) := by decide +kernel
theorem d_Mo_candidates_47 : decode c_Mo_candidates 47 = .ok (.getfield 221, 3) := by decide +kernel
theorem d_Mo_candidates_50 : decode c_Mo_candidates 50 = .ok (.iconst 1, 1) := by decide +kernel
theorem d_Mo_candidates_51 : decode c_Mo_candidates 51 = .ok (.iadd, 1) := by decide +kernel
theorem d_Mo_candidates_52 : decode c_Mo_candidates 52 = .ok (.putfield 221, 3) := by decide +kernel
theorem d_Mo_candidates_55 : decode c_Mo_candidates 55 = .ok (.iinc 1 1, 3) := by decide +kernel
theorem d_Mo_candidates_58 : decode c_Mo_candidates 58 = .ok (.goto (-48), 3) := by decide +kernel
theorem d_Mo_candidates_61 : decode c_Mo_candidates 61 = .ok (.return_, 1) := by decide +kernel
set_option maxRecDepth 20000 in
theorem w_Mo_candidates_10b {X : HX} {ad : Nat → Nat} {I : HI} {J : HJ} {N : HN} {r : HI} {k10 : HI → Int32 → Option (HI)} {a0 : Nat} {x1 : Int32} (C : Cx X c_Mo_candidates RX11 3 none rm_Mo_candidates) (ha0 : gk Tm nM a0 (0, 11))
    (hk10 : ∀ (I : HI) (x1 : Int32), k10 I x1 = some r → G Tm X ad nM 0 0 I J N (gE X Tm ad nM (r, J, N, fun _ => none)) 10 3 [(0, .ref (ad a0)), (1, .int x1)] [])
    (h : Mo_candidates_10b N a0 k10 I x1 = some r) : G Tm X ad nM 0 0 I J N (gE X Tm ad nM (r, J, N, fun _ => none)) 10 3 [(0, .ref (ad a0)), (1, .int x1)] [] := by
  refine g_iload_n (pc := 10) C d_Mo_candidates_10 rfl 1 rfl ?_
  refine g_bipush (pc := 11) C (120 : Int32) d_Mo_candidates_11 (by decide) ?_
  refine g_icmp_ge (pc := 13) C 61 d_Mo_candidates_13 rfl (fun e1 => ?_) (fun e1 => ?_)
  · have h := o_pos e1 h
    obtain rfl := o_ret h
    exact g_vret (pc := 61) C d_Mo_candidates_61
  · have h := o_neg e1 h
    refine g_iload_n (pc := 16) C d_Mo_candidates_16 rfl 1 rfl ?_
    refine g_iconst (pc := 17) C (1 : Int32) d_Mo_candidates_17 (by decide) ?_
    obtain ⟨r2, hc3, h⟩ := o_bn1 h
    refine g_S (pc := 18) (rest := []) C (k_Mo_candidate (xl X)  hc3) sm_Mo_candidate ml_Mo_224 st_Mo_candidate ⟨rfl, rfl, Nat.le_of_ble_eq_true rfl, Nat.le_of_ble_eq_true rfl⟩ ⟨Nat.zero_le _, Nat.zero_le _⟩ rfl rfl (Nat.le_of_ble_eq_true rfl) d_Mo_candidates_18 [.int r2] rfl ?_
    refine g_istore_n (pc := 21) (lv' := [(2, .int r2), (0, .ref (ad a0)), (1, .int x1)]) C d_Mo_candidates_21 rfl (by decide) rfl ?_
    refine g_iload_n (pc := 22) C d_Mo_candidates_22 rfl 0 rfl ?_
    refine g_if_ne (pc := 23) C 27 d_Mo_candidates_23 rfl (fun e4 => ?_) (fun e4 => ?_)
    · have h := o_neg e4 h
      refine g_aload_n (pc := 27) C d_Mo_candidates_27 rfl 1 rfl ?_
      obtain ⟨b5, hnb5, hb5, h⟩ := o_ra h
      refine g_get (pc := 28) (k := 19) (v := va_rf ((N a0 19).map ad)) C gcX11 inX11 (by decide) fl_Mo_47 ha0 rfl d_Mo_candidates_28 ?_
      refine g_top (g_rf hnb5) ?_
      refine g_iload_n (pc := 31) C d_Mo_candidates_31 rfl 2 rfl ?_
      refine g_iload_n (pc := 32) C d_Mo_candidates_32 rfl 2 rfl ?_
      refine g_iconst (pc := 33) C (0 : Int32) d_Mo_candidates_33 (by decide) ?_
      obtain ⟨r6, hc7, h⟩ := o_bn1 h
      refine g_S (pc := 34) (rest := [.int x1, .ref (ad b5)]) C (k_Mo_candidate (xl X)  hc7) sm_Mo_candidate ml_Mo_224 st_Mo_candidate ⟨rfl, rfl, Nat.le_of_ble_eq_true rfl, Nat.le_of_ble_eq_true rfl⟩ ⟨Nat.zero_le _, Nat.zero_le _⟩ rfl rfl (Nat.le_of_ble_eq_true rfl) d_Mo_candidates_34 [.int r6, .int x1, .ref (ad b5)] rfl ?_
      obtain ⟨hi8, h⟩ := o_gd h
      refine g_iast (pc := 37) C hb5 hi8 d_Mo_candidates_37 ?_
      obtain ⟨I9, eI9, h⟩ := o_bd h
      rw [← eI9]
      refine g_aload_n (pc := 38) C d_Mo_candidates_38 rfl 1 rfl ?_
      obtain ⟨b10, hnb10, hb10, h⟩ := o_ra h
      refine g_get (pc := 39) (k := 20) (v := va_rf ((N a0 20).map ad)) C gcX11 inX11 (by decide) fl_Mo_50 ha0 rfl d_Mo_candidates_39 ?_
      refine g_top (g_rf hnb10) ?_
      refine g_iload_n (pc := 42) C d_Mo_candidates_42 rfl 2 rfl ?_
      refine g_iload_n (pc := 43) C d_Mo_candidates_43 rfl 0 rfl ?_
      obtain ⟨hi11, h⟩ := o_gd h
      refine g_iast (pc := 44) C hb10 hi11 d_Mo_candidates_44 ?_
      obtain ⟨I12, eI12, h⟩ := o_bd h
      rw [← eI12]
      refine g_aload_n (pc := 45) C d_Mo_candidates_45 rfl 1 rfl ?_
      refine g_dup (pc := 46) C d_Mo_candidates_46 rfl ?_
      refine g_get (pc := 47) (k := 21) (v := .int (I12 a0 21)) C gcX11 inX11 (by decide) fl_Mo_221 ha0 rfl d_Mo_candidates_47 ?_
      refine g_iconst (pc := 50) C (1 : Int32) d_Mo_candidates_50 (by decide) ?_
      refine g_iadd (pc := 51) C d_Mo_candidates_51 ?_
      refine g_put (pc := 52) (I' := up2 I12 a0 21 ((I12 a0 21) + (1 : Int32))) (J' := J) (N' := N) (k := 21) C gcX11 inX11 tyX11_ok nmX11 (by decide) fl_Mo_221 rfl ha0 (tyX11_ok 21 (by decide)) rfl rfl (Nat.le_of_ble_eq_true rfl) gs_11_21 (fun b hb => up2_of hb) (fun _ _ => rfl) (fun _ _ => rfl) d_Mo_candidates_52 ?_
      obtain ⟨I13, eI13, h⟩ := o_bd h
      rw [← eI13]
      refine g_iinc (pc := 55) (q := 2) (lv' := [(1, .int (x1 + 1)), (2, .int r2), (0, .ref (ad a0))]) C d_Mo_candidates_55 rfl rfl (by decide) rfl ?_
      refine g_goto (pc := 58) C 10 d_Mo_candidates_58 rfl ?_
      refine g_lv [2, 0] rfl ?_
      exact hk10 _ _ h
    · have h := o_pos e4 h
      obtain rfl := o_ret h
      exact g_vret (pc := 26) C d_Mo_candidates_26
set_option maxRecDepth 20000 in
theorem w_Mo_candidates_10 {X : HX} {ad : Nat → Nat} {J : HJ} {N : HN} {r : HI} {a0 : Nat} (C : Cx X c_Mo_candidates RX11 3 none rm_Mo_candidates) (ha0 : gk Tm nM a0 (0, 11)) : ∀ (n : Nat) (I : HI) (x1 : Int32), Mo_candidates_10 N a0 n I x1 = some r → G Tm X ad nM 0 0 I J N (gE X Tm ad nM (r, J, N, fun _ => none)) 10 3 [(0, .ref (ad a0)), (1, .int x1)] [] := by
  intro n
  induction n with
  | zero => intro I x1 h; cases h
  | succ n ih => intro I x1 h; exact w_Mo_candidates_10b C ha0 ih h
set_option maxRecDepth 20000 in
theorem w_Mo_candidates_0 {X : HX} {ad : Nat → Nat} {I : HI} {J : HJ} {N : HN} {r : HI} {a0 : Nat} (C : Cx X c_Mo_candidates RX11 3 none rm_Mo_candidates) (ha0 : gk Tm nM a0 (0, 11))
    (h : Mo_candidates_0 N a0 I = some r) : G Tm X ad nM 0 0 I J N (gE X Tm ad nM (r, J, N, fun _ => none)) 0 3 [(0, .ref (ad a0))] [] := by
  refine g_aload_n (pc := 0) C d_Mo_candidates_0 rfl 0 rfl ?_
  refine g_get (pc := 1) (k := 21) (v := .int (I a0 21)) C gcX11 inX11 (by decide) fl_Mo_221 ha0 rfl d_Mo_candidates_1 ?_
  refine g_if_le (pc := 4) C 8 d_Mo_candidates_4 rfl (fun e1 => ?_) (fun e1 => ?_)
  · have h := o_pos e1 h
    refine g_iconst (pc := 8) C (0 : Int32) d_Mo_candidates_8 (by decide) ?_
    refine g_istore_n (pc := 9) (lv' := [(1, .int (0 : Int32)), (0, .ref (ad a0))]) C d_Mo_candidates_9 rfl (by decide) rfl ?_
    refine g_lv [1, 0] rfl ?_
    exact w_Mo_candidates_10 C ha0 _ _ _ h
  · have h := o_neg e1 h
    obtain rfl := o_ret h
    exact g_vret (pc := 7) C d_Mo_candidates_7
set_option maxRecDepth 20000 in
theorem k_Mo_candidates (l : Launch) {I : HI} {J : HJ} {N : HN} {a0 : Nat} {r : HI} (ha0 : gk Tm nM a0 (0, 11)) (h : Mo_candidates N a0 I = some r) : gM l y_Mo_candidates c_Mo_candidates 3 none rm_Mo_candidates Tm nM I J N (fun ad => [.ref (ad a0)]) (r, J, N, fun _ => none) :=
  g_meth (lv := fun ad => [(0, .ref (ad a0))]) (by decide) (fun _ => Nat.le_of_ble_eq_true rfl) (fun _ => rfl) (fun X ad C => g_lv [0] rfl (w_Mo_candidates_0 C ha0 h))
theorem d_Mo_isDark_0 : decode c_Mo_isDark 0 = .ok (.iconst 0, 1) := by decide +kernel
theorem d_Mo_isDark_1 : decode c_Mo_isDark 1 = .ok (.istore_n 1, 1) := by decide +kernel
theorem d_Mo_isDark_2 : decode c_Mo_isDark 2 = .ok (.iload_n 1, 1) := by decide +kernel
theorem d_Mo_isDark_3 : decode c_Mo_isDark 3 = .ok (.bipush 7, 2) := by decide +kernel
theorem d_Mo_isDark_5 : decode c_Mo_isDark 5 = .ok (.if_icmp .ge 21, 3) := by decide +kernel
theorem d_Mo_isDark_8 : decode c_Mo_isDark 8 = .ok (.aload_n 0, 1) := by decide +kernel
theorem d_Mo_isDark_9 : decode c_Mo_isDark 9 = .ok (.getfield 41, 3) := by decide +kernel
theorem d_Mo_isDark_12 : decode c_Mo_isDark 12 = .ok (.iload_n 1, 1) := by decide +kernel
theorem d_Mo_isDark_13 : decode c_Mo_isDark 13 = .ok (.aload_n 0, 1) := by decide +kernel
theorem d_Mo_isDark_14 : decode c_Mo_isDark 14 = .ok (.getfield 38, 3) := by decide +kernel
theorem d_Mo_isDark_17 : decode c_Mo_isDark 17 = .ok (.iload_n 1, 1) := by decide +kernel
theorem d_Mo_isDark_18 : decode c_Mo_isDark 18 = .ok (.laload, 1) := by decide +kernel
theorem d_Mo_isDark_19 : decode c_Mo_isDark 19 = .ok (.lastore, 1) := by decide +kernel
theorem d_Mo_isDark_20 : decode c_Mo_isDark 20 = .ok (.iinc 1 1, 3) := by decide +kernel
theorem d_Mo_isDark_23 : decode c_Mo_isDark 23 = .ok (.goto (-21), 3) := by decide +kernel
theorem d_Mo_isDark_26 : decode c_Mo_isDark 26 = .ok (.aload_n 0, 1) := by decide +kernel
theorem d_Mo_isDark_27 : decode c_Mo_isDark 27 = .ok (.getfield 41, 3) := by decide +kernel
theorem d_Mo_isDark_30 : decode c_Mo_isDark 30 = .ok (.iconst 0, 1) := by decide +kernel
theorem d_Mo_isDark_31 : decode c_Mo_isDark 31 = .ok (.laload, 1) := by decide +kernel
theorem d_Mo_isDark_32 : decode c_Mo_isDark 32 = .ok (.lconst 0, 1) := by decide +kernel
theorem d_Mo_isDark_33 : decode c_Mo_isDark 33 = .ok (.lcmp, 1) := by decide +kernel
theorem d_Mo_isDark_34 : decode c_Mo_isDark 34 = .ok (.ifCond .ne 13, 3) := by decide +kernel
theorem d_Mo_isDark_37 : decode c_Mo_isDark 37 = .ok (.aload_n 0, 1) := by decide +kernel
theorem d_Mo_isDark_38 : decode c_Mo_isDark 38 = .ok (.getfield 41, 3) := by decide +kernel
theorem d_Mo_isDark_41 : decode c_Mo_isDark 41 = .ok (.invokestatic 227, 3) := by decide +kernel
theorem d_Mo_isDark_44 : decode c_Mo_isDark 44 = .ok (.goto (-18), 3) := by decide +kernel
theorem d_Mo_isDark_47 : decode c_Mo_isDark 47 = .ok (.iconst 0, 1) := by decide +kernel
theorem d_Mo_isDark_48 : decode c_Mo_isDark 48 = .ok (.istore_n 1, 1) := by decide +kernel
theorem d_Mo_isDark_49 : decode c_Mo_isDark 49 = .ok (.iload_n 1, 1) := by decide +kernel
theorem d_Mo_isDark_50 : decode c_Mo_isDark 50 = .ok (.aload_n 0, 1) := by decide +kernel
theorem d_Mo_isDark_51 : decode c_Mo_isDark 51 = .ok (.getfield 221, 3) := by decide +kernel
theorem d_Mo_isDark_54 : decode c_Mo_isDark 54 = .ok (.if_icmp .ge 50, 3) := by decide +kernel
theorem d_Mo_isDark_57 : decode c_Mo_isDark 57 = .ok (.iconst 1, 1) := by decide +kernel
theorem d_Mo_isDark_58 : decode c_Mo_isDark 58 = .ok (.istore_n 2, 1) := by decide +kernel
theorem d_Mo_isDark_59 : decode c_Mo_isDark 59 = .ok (.iconst 0, 1) := by decide +kernel
theorem d_Mo_isDark_60 : decode c_Mo_isDark 60 = .ok (.istore_n 3, 1) := by decide +kernel
theorem d_Mo_isDark_61 : decode c_Mo_isDark 61 = .ok (.iload_n 3, 1) := by decide +kernel
theorem d_Mo_isDark_62 : decode c_Mo_isDark 62 = .ok (.bipush 7, 2) := by decide +kernel
theorem d_Mo_isDark_64 : decode c_Mo_isDark 64 = .ok (.if_icmp .ge 34, 3) := by decide +kernel
theorem d_Mo_isDark_67 : decode c_Mo_isDark 67 = .ok (.iload_n 2, 1) := by decide +kernel
theorem d_Mo_isDark_68 : decode c_Mo_isDark 68 = .ok (.ifCond .eq 30, 3) := by decide +kernel
theorem d_Mo_isDark_71 : decode c_Mo_isDark 71 = .ok (.aload_n 0, 1) := by decide +kernel
theorem d_Mo_isDark_72 : decode c_Mo_isDark 72 = .ok (.lconst 0, 1) := by decide +kernel
theorem d_Mo_isDark_73 : decode c_Mo_isDark 73 = .ok (.aload_n 0, 1) := by decide +kernel
theorem d_Mo_isDark_74 : decode c_Mo_isDark 74 = .ok (.getfield 47, 3) := by decide +kernel
theorem d_Mo_isDark_77 : decode c_Mo_isDark 77 = .ok (.iload_n 1, 1) := by decide +kernel
theorem d_Mo_isDark_78 : decode c_Mo_isDark 78 = .ok (.iaload, 1) := by decide +kernel
theorem d_Mo_isDark_79 : decode c_Mo_isDark 79 = .ok (.i2l, 1) := by decide +kernel
theorem d_Mo_isDark_80 : decode c_Mo_isDark 80 = .ok (.lsub, 1) := by decide +kernel
theorem d_Mo_isDark_81 : decode c_Mo_isDark 81 = .ok (.aload_n 0, 1) := by decide +kernel
theorem d_Mo_isDark_82 : decode c_Mo_isDark 82 = .ok (.getfield 50, 3) := by decide +kernel
theorem d_Mo_isDark_85 : decode c_Mo_isDark 85 = .ok (.iload_n 1, 1) := by decide +kernel
theorem d_Mo_isDark_86 : decode c_Mo_isDark 86 = .ok (.iaload, 1) := by decide +kernel
theorem d_Mo_isDark_87 : decode c_Mo_isDark 87 = .ok (.i2l, 1) := by decide +kernel
theorem d_Mo_isDark_88 : decode c_Mo_isDark 88 = .ok (.invokevirtual 231, 3) := by decide +kernel
theorem d_Mo_isDark_91 : decode c_Mo_isDark 91 = .ok (.istore_n 2, 1) := by decide +kernel
theorem d_Mo_isDark_92 : decode c_Mo_isDark 92 = .ok (.iinc 3 1, 3) := by decide +kernel
theorem d_Mo_isDark_95 : decode c_Mo_isDark 95 = .ok (.goto (-34), 3) := by decide +kernel
theorem d_Mo_isDark_98 : decode c_Mo_isDark 98 = .ok (.iinc 1 1, 3) := by decide +kernel
theorem d_Mo_isDark_101 : decode c_Mo_isDark 101 = .ok (.goto (-52), 3) := by decide +kernel
theorem d_Mo_isDark_104 : decode c_Mo_isDark 104 = .ok (.aload_n 0, 1) := by decide +kernel
theorem d_Mo_isDark_105 : decode c_Mo_isDark 105 = .ok (.getfield 41, 3) := by decide +kernel
theorem d_Mo_isDark_108 : decode c_Mo_isDark 108 = .ok (.invokestatic 184, 3) := by decide +kernel
theorem d_Mo_isDark_111 : decode c_Mo_isDark 111 = .ok (.ifCond .le 7, 3) := by decide +kernel
theorem d_Mo_isDark_114 : decode c_Mo_isDark 114 = .ok (.iconst 1, 1) := by decide +kernel
theorem d_Mo_isDark_115 : decode c_Mo_isDark 115 = .ok (.goto 4, 3) := by decide +kernel
theorem d_Mo_isDark_118 : decode c_Mo_isDark 118 = .ok (.iconst 0, 1) := by decide +kernel
theorem d_Mo_isDark_119 : decode c_Mo_isDark 119 = .ok (.ireturn, 1) := by decide +kernel
set_option maxRecDepth 20000 in
theorem w_Mo_isDark_98 {X : HX} {ad : Nat → Nat} {I : HI} {J : HJ} {N : HN} {r : HJ × Int32} {k49 : HJ → Int32 → Option (HJ × Int32)} {a0 : Nat} {x1 : Int32} (C : Cx X c_Mo_isDark RX11 4 (some .boolean) rm_Mo_isDark) (ha0 : gk Tm nM a0 (0, 11))
    (hk49 : ∀ (J : HJ) (x1 : Int32), k49 J x1 = some r → G Tm X ad nM 0 0 I J N (gE X Tm ad nM (I, r.1, N, fun _ => some (.int r.2))) 49 4 [(0, .ref (ad a0)), (1, .int x1)] [])
    (h : Mo_isDark_98 I N a0 k49 J x1 = some r) : G Tm X ad nM 0 0 I J N (gE X Tm ad nM (I, r.1, N, fun _ => some (.int r.2))) 98 4 [(0, .ref (ad a0)), (1, .int x1)] [] := by
  refine g_iinc (pc := 98) (q := 1) (lv' := [(1, .int (x1 + 1)), (0, .ref (ad a0))]) C d_Mo_isDark_98 rfl rfl (by decide) rfl ?_
  refine g_goto (pc := 101) C 49 d_Mo_isDark_101 rfl ?_
  refine g_lv [1, 0] rfl ?_
  exact hk49 _ _ h
set_option maxRecDepth 20000 in
theorem w_Mo_isDark_61b {X : HX} {ad : Nat → Nat} {I : HI} {J : HJ} {N : HN} {r : HJ × Int32} {k49 : HJ → Int32 → Option (HJ × Int32)} {k61 : HJ → Int32 → Int32 → Int32 → Option (HJ × Int32)} {a0 : Nat} {x1 : Int32} {x2 : Int32} {x3 : Int32} (C : Cx X c_Mo_isDark RX11 4 (some .boolean) rm_Mo_isDark) (ha0 : gk Tm nM a0 (0, 11))
    (hk49 : ∀ (J : HJ) (x1 : Int32), k49 J x1 = some r → G Tm X ad nM 0 0 I J N (gE X Tm ad nM (I, r.1, N, fun _ => some (.int r.2))) 49 4 [(0, .ref (ad a0)), (1, .int x1)] [])
    (hk61 : ∀ (J : HJ) (x1 : Int32) (x2 : Int32) (x3 : Int32), k61 J x1 x2 x3 = some r → G Tm X ad nM 0 0 I J N (gE X Tm ad nM (I, r.1, N, fun _ => some (.int r.2))) 61 4 [(0, .ref (ad a0)), (1, .int x1), (2, .int x2), (3, .int x3)] [])
    (h : Mo_isDark_61b I N a0 k49 k61 J x1 x2 x3 = some r) : G Tm X ad nM 0 0 I J N (gE X Tm ad nM (I, r.1, N, fun _ => some (.int r.2))) 61 4 [(0, .ref (ad a0)), (1, .int x1), (2, .int x2), (3, .int x3)] [] := by
  refine g_iload_n (pc := 61) C d_Mo_isDark_61 rfl 3 rfl ?_
  refine g_bipush (pc := 62) C (7 : Int32) d_Mo_isDark_62 (by decide) ?_
  refine g_icmp_ge (pc := 64) C 98 d_Mo_isDark_64 rfl (fun e1 => ?_) (fun e1 => ?_)
  · have h := o_pos e1 h
    refine g_lv [0, 1] rfl ?_
    exact w_Mo_isDark_98 C ha0 hk49 h
  · have h := o_neg e1 h
    refine g_iload_n (pc := 67) C d_Mo_isDark_67 rfl 2 rfl ?_
    refine g_if_eq (pc := 68) C 98 d_Mo_isDark_68 rfl (fun e2 => ?_) (fun e2 => ?_)
    · have h := o_pos e2 h
      refine g_lv [0, 1] rfl ?_
      exact w_Mo_isDark_98 C ha0 hk49 h
    · have h := o_neg e2 h
      refine g_aload_n (pc := 71) C d_Mo_isDark_71 rfl 0 rfl ?_
      refine g_lconst (pc := 72) C (0 : Int64) d_Mo_isDark_72 (by decide) ?_
      refine g_aload_n (pc := 73) C d_Mo_isDark_73 rfl 0 rfl ?_
      obtain ⟨b3, hnb3, hb3, h⟩ := o_ra h
      refine g_get (pc := 74) (k := 19) (v := va_rf ((N a0 19).map ad)) C gcX11 inX11 (by decide) fl_Mo_47 ha0 rfl d_Mo_isDark_74 ?_
      refine g_top (g_rf hnb3) ?_
      refine g_iload_n (pc := 77) C d_Mo_isDark_77 rfl 1 rfl ?_
      obtain ⟨hi4, h⟩ := o_gd h
      refine g_iald (pc := 78) C hb3 hi4 d_Mo_isDark_78 ?_
      refine g_i2l (pc := 79) C d_Mo_isDark_79 ?_
      refine g_lsub (pc := 80) C d_Mo_isDark_80 ?_
      refine g_aload_n (pc := 81) C d_Mo_isDark_81 rfl 0 rfl ?_
      obtain ⟨b5, hnb5, hb5, h⟩ := o_ra h
      refine g_get (pc := 82) (k := 20) (v := va_rf ((N a0 20).map ad)) C gcX11 inX11 (by decide) fl_Mo_50 ha0 rfl d_Mo_isDark_82 ?_
      refine g_top (g_rf hnb5) ?_
      refine g_iload_n (pc := 85) C d_Mo_isDark_85 rfl 1 rfl ?_
      obtain ⟨hi6, h⟩ := o_gd h
      refine g_iald (pc := 86) C hb5 hi6 d_Mo_isDark_86 ?_
      refine g_i2l (pc := 87) C d_Mo_isDark_87 ?_
      obtain ⟨J7, r8, hc9, h⟩ := o_bn2 h
      refine g_V (pc := 88) (rest := []) C (k_Mo_takesOut (xl X) ha0 hc9) sm_Mo_takesOut ml_Mo_231 im_Mo_takesOut se_Mo_takesOut gcX11 rfl ha0 ⟨rfl, rfl, Nat.le_of_ble_eq_true rfl, Nat.le_of_ble_eq_true rfl⟩ ⟨Nat.zero_le _, Nat.zero_le _⟩ rfl rfl (Nat.le_of_ble_eq_true rfl) d_Mo_isDark_88 [.int r8] rfl ?_
      refine g_istore_n (pc := 91) (lv' := [(2, .int r8), (0, .ref (ad a0)), (1, .int x1), (3, .int x3)]) C d_Mo_isDark_91 rfl (by decide) rfl ?_
      refine g_iinc (pc := 92) (q := 3) (lv' := [(3, .int (x3 + 1)), (2, .int r8), (0, .ref (ad a0)), (1, .int x1)]) C d_Mo_isDark_92 rfl rfl (by decide) rfl ?_
      refine g_goto (pc := 95) C 61 d_Mo_isDark_95 rfl ?_
      refine g_lv [2, 3, 1, 0] rfl ?_
      exact hk61 _ _ _ _ h
set_option maxRecDepth 20000 in
theorem w_Mo_isDark_61 {X : HX} {ad : Nat → Nat} {I : HI} {N : HN} {r : HJ × Int32} {k49 : HJ → Int32 → Option (HJ × Int32)} {a0 : Nat} (C : Cx X c_Mo_isDark RX11 4 (some .boolean) rm_Mo_isDark) (ha0 : gk Tm nM a0 (0, 11))
    (hk49 : ∀ (J : HJ) (x1 : Int32), k49 J x1 = some r → G Tm X ad nM 0 0 I J N (gE X Tm ad nM (I, r.1, N, fun _ => some (.int r.2))) 49 4 [(0, .ref (ad a0)), (1, .int x1)] []) : ∀ (n : Nat) (J : HJ) (x1 : Int32) (x2 : Int32) (x3 : Int32), Mo_isDark_61 I N a0 k49 n J x1 x2 x3 = some r → G Tm X ad nM 0 0 I J N (gE X Tm ad nM (I, r.1, N, fun _ => some (.int r.2))) 61 4 [(0, .ref (ad a0)), (1, .int x1), (2, .int x2), (3, .int x3)] [] := by
  intro n
  induction n with
  | zero => intro J x1 x2 x3 h; cases h
  | succ n ih => intro J x1 x2 x3 h; exact w_Mo_isDark_61b C ha0 hk49 ih h
set_option maxRecDepth 20000 in
theorem w_Mo_isDark_49b {X : HX} {ad : Nat → Nat} {I : HI} {J : HJ} {N : HN} {r : HJ × Int32} {k49 : HJ → Int32 → Option (HJ × Int32)} {a0 : Nat} {x1 : Int32} (C : Cx X c_Mo_isDark RX11 4 (some .boolean) rm_Mo_isDark) (ha0 : gk Tm nM a0 (0, 11))
    (hk49 : ∀ (J : HJ) (x1 : Int32), k49 J x1 = some r → G Tm X ad nM 0 0 I J N (gE X Tm ad nM (I, r.1, N, fun _ => some (.int r.2))) 49 4 [(0, .ref (ad a0)), (1, .int x1)] [])
    (h : Mo_isDark_49b I N a0 k49 J x1 = some r) : G Tm X ad nM 0 0 I J N (gE X Tm ad nM (I, r.1, N, fun _ => some (.int r.2))) 49 4 [(0, .ref (ad a0)), (1, .int x1)] [] := by
  refine g_iload_n (pc := 49) C d_Mo_isDark_49 rfl 1 rfl ?_
  refine g_aload_n (pc := 50) C d_Mo_isDark_50 rfl 0 rfl ?_
  refine g_get (pc := 51) (k := 21) (v := .int (I a0 21)) C gcX11 inX11 (by decide) fl_Mo_221 ha0 rfl d_Mo_isDark_51 ?_
  refine g_icmp_ge (pc := 54) C 104 d_Mo_isDark_54 rfl (fun e1 => ?_) (fun e1 => ?_)
  · have h := o_pos e1 h
    refine g_aload_n (pc := 104) C d_Mo_isDark_104 rfl 0 rfl ?_
    obtain ⟨b2, hnb2, hb2, h⟩ := o_ra h
    refine g_get (pc := 105) (k := 17) (v := va_rf ((N a0 17).map ad)) C gcX11 inX11 (by decide) fl_Mo_41 ha0 rfl d_Mo_isDark_105 ?_
    refine g_top (g_rf hnb2) ?_
    obtain ⟨r3, hc4, h⟩ := o_bn1 h
    refine g_S (pc := 108) (rest := []) C (k_Mo_top (xl X) hb2 hc4) sm_Mo_top ml_Mo_184 st_Mo_top ⟨rfl, rfl, Nat.le_of_ble_eq_true rfl, Nat.le_of_ble_eq_true rfl⟩ ⟨Nat.zero_le _, Nat.zero_le _⟩ rfl rfl (Nat.le_of_ble_eq_true rfl) d_Mo_isDark_108 [.int r3] rfl ?_
    refine g_if_le (pc := 111) C 118 d_Mo_isDark_111 rfl (fun e5 => ?_) (fun e5 => ?_)
    · have h := o_pos e5 h
      refine g_iconst (pc := 118) C (0 : Int32) d_Mo_isDark_118 (by decide) ?_
      obtain rfl := o_ret h
      exact g_zret (pc := 119) C zn_0 d_Mo_isDark_119
    · have h := o_neg e5 h
      refine g_iconst (pc := 114) C (1 : Int32) d_Mo_isDark_114 (by decide) ?_
      refine g_goto (pc := 115) C 119 d_Mo_isDark_115 rfl ?_
      obtain rfl := o_ret h
      exact g_zret (pc := 119) C zn_1 d_Mo_isDark_119
  · have h := o_neg e1 h
    refine g_iconst (pc := 57) C (1 : Int32) d_Mo_isDark_57 (by decide) ?_
    refine g_istore_n (pc := 58) (lv' := [(2, .int (1 : Int32)), (0, .ref (ad a0)), (1, .int x1)]) C d_Mo_isDark_58 rfl (by decide) rfl ?_
    refine g_iconst (pc := 59) C (0 : Int32) d_Mo_isDark_59 (by decide) ?_
    refine g_istore_n (pc := 60) (lv' := [(3, .int (0 : Int32)), (2, .int (1 : Int32)), (0, .ref (ad a0)), (1, .int x1)]) C d_Mo_isDark_60 rfl (by decide) rfl ?_
    refine g_lv [2, 3, 1, 0] rfl ?_
    exact w_Mo_isDark_61 C ha0 hk49 _ _ _ _ _ h
set_option maxRecDepth 20000 in
theorem w_Mo_isDark_49 {X : HX} {ad : Nat → Nat} {I : HI} {N : HN} {r : HJ × Int32} {a0 : Nat} (C : Cx X c_Mo_isDark RX11 4 (some .boolean) rm_Mo_isDark) (ha0 : gk Tm nM a0 (0, 11)) : ∀ (n : Nat) (J : HJ) (x1 : Int32), Mo_isDark_49 I N a0 n J x1 = some r → G Tm X ad nM 0 0 I J N (gE X Tm ad nM (I, r.1, N, fun _ => some (.int r.2))) 49 4 [(0, .ref (ad a0)), (1, .int x1)] [] := by
  intro n
  induction n with
  | zero => intro J x1 h; cases h
  | succ n ih => intro J x1 h; exact w_Mo_isDark_49b C ha0 ih h
set_option maxRecDepth 20000 in
theorem w_Mo_isDark_26b {X : HX} {ad : Nat → Nat} {I : HI} {J : HJ} {N : HN} {r : HJ × Int32} {k26 : HJ → Option (HJ × Int32)} {a0 : Nat} (C : Cx X c_Mo_isDark RX11 4 (some .boolean) rm_Mo_isDark) (ha0 : gk Tm nM a0 (0, 11))
    (hk26 : ∀ (J : HJ), k26 J = some r → G Tm X ad nM 0 0 I J N (gE X Tm ad nM (I, r.1, N, fun _ => some (.int r.2))) 26 4 [(0, .ref (ad a0))] [])
    (h : Mo_isDark_26b I N a0 k26 J = some r) : G Tm X ad nM 0 0 I J N (gE X Tm ad nM (I, r.1, N, fun _ => some (.int r.2))) 26 4 [(0, .ref (ad a0))] [] := by
  refine g_aload_n (pc := 26) C d_Mo_isDark_26 rfl 0 rfl ?_
  obtain ⟨b1, hnb1, hb1, h⟩ := o_ra h
  refine g_get (pc := 27) (k := 17) (v := va_rf ((N a0 17).map ad)) C gcX11 inX11 (by decide) fl_Mo_41 ha0 rfl d_Mo_isDark_27 ?_
  refine g_top (g_rf hnb1) ?_
  refine g_iconst (pc := 30) C (0 : Int32) d_Mo_isDark_30 (by decide) ?_
  obtain ⟨hi2, h⟩ := o_gd h
  refine g_lald (pc := 31) C hb1 hi2 d_Mo_isDark_31 ?_
  refine g_lconst (pc := 32) C (0 : Int64) d_Mo_isDark_32 (by decide) ?_
  refine g_lcmp_ne (pc := 33) C 47 d_Mo_isDark_33 d_Mo_isDark_34 rfl (fun e3 => ?_) (fun e3 => ?_)
  · have h := o_neg e3 h
    refine g_iconst (pc := 47) C (0 : Int32) d_Mo_isDark_47 (by decide) ?_
    refine g_istore_n (pc := 48) (lv' := [(1, .int (0 : Int32)), (0, .ref (ad a0))]) C d_Mo_isDark_48 rfl (by decide) rfl ?_
    refine g_lv [1, 0] rfl ?_
    exact w_Mo_isDark_49 C ha0 _ _ _ h
  · have h := o_pos e3 h
    refine g_aload_n (pc := 37) C d_Mo_isDark_37 rfl 0 rfl ?_
    obtain ⟨b4, hnb4, hb4, h⟩ := o_ra h
    refine g_get (pc := 38) (k := 17) (v := va_rf ((N a0 17).map ad)) C gcX11 inX11 (by decide) fl_Mo_41 ha0 rfl d_Mo_isDark_38 ?_
    refine g_top (g_rf hnb4) ?_
    obtain ⟨J5, hc6, h⟩ := o_bn1 h
    refine g_S (pc := 41) (rest := []) C (k_Mo_downs (xl X) hb4 hc6) sm_Mo_downs ml_Mo_227 st_Mo_downs ⟨rfl, rfl, Nat.le_of_ble_eq_true rfl, Nat.le_of_ble_eq_true rfl⟩ ⟨Nat.zero_le _, Nat.zero_le _⟩ rfl rfl (Nat.le_of_ble_eq_true rfl) d_Mo_isDark_41 [] rfl ?_
    refine g_goto (pc := 44) C 26 d_Mo_isDark_44 rfl ?_
    refine g_lv [0] rfl ?_
    exact hk26 _ h
set_option maxRecDepth 20000 in
theorem w_Mo_isDark_26 {X : HX} {ad : Nat → Nat} {I : HI} {N : HN} {r : HJ × Int32} {a0 : Nat} (C : Cx X c_Mo_isDark RX11 4 (some .boolean) rm_Mo_isDark) (ha0 : gk Tm nM a0 (0, 11)) : ∀ (n : Nat) (J : HJ), Mo_isDark_26 I N a0 n J = some r → G Tm X ad nM 0 0 I J N (gE X Tm ad nM (I, r.1, N, fun _ => some (.int r.2))) 26 4 [(0, .ref (ad a0))] [] := by
  intro n
  induction n with
  | zero => intro J h; cases h
  | succ n ih => intro J h; exact w_Mo_isDark_26b C ha0 ih h
set_option maxRecDepth 20000 in
theorem w_Mo_isDark_2b {X : HX} {ad : Nat → Nat} {I : HI} {J : HJ} {N : HN} {r : HJ × Int32} {k2 : HJ → Int32 → Option (HJ × Int32)} {a0 : Nat} {x1 : Int32} (C : Cx X c_Mo_isDark RX11 4 (some .boolean) rm_Mo_isDark) (ha0 : gk Tm nM a0 (0, 11))
    (hk2 : ∀ (J : HJ) (x1 : Int32), k2 J x1 = some r → G Tm X ad nM 0 0 I J N (gE X Tm ad nM (I, r.1, N, fun _ => some (.int r.2))) 2 4 [(0, .ref (ad a0)), (1, .int x1)] [])
    (h : Mo_isDark_2b I N a0 k2 J x1 = some r) : G Tm X ad nM 0 0 I J N (gE X Tm ad nM (I, r.1, N, fun _ => some (.int r.2))) 2 4 [(0, .ref (ad a0)), (1, .int x1)] [] := by
  refine g_iload_n (pc := 2) C d_Mo_isDark_2 rfl 1 rfl ?_
  refine g_bipush (pc := 3) C (7 : Int32) d_Mo_isDark_3 (by decide) ?_
  refine g_icmp_ge (pc := 5) C 26 d_Mo_isDark_5 rfl (fun e1 => ?_) (fun e1 => ?_)
  · have h := o_pos e1 h
    refine g_lv [0] rfl ?_
    exact w_Mo_isDark_26 C ha0 _ _ h
  · have h := o_neg e1 h
    refine g_aload_n (pc := 8) C d_Mo_isDark_8 rfl 0 rfl ?_
    obtain ⟨b2, hnb2, hb2, h⟩ := o_ra h
    refine g_get (pc := 9) (k := 17) (v := va_rf ((N a0 17).map ad)) C gcX11 inX11 (by decide) fl_Mo_41 ha0 rfl d_Mo_isDark_9 ?_
    refine g_top (g_rf hnb2) ?_
    refine g_iload_n (pc := 12) C d_Mo_isDark_12 rfl 1 rfl ?_
    refine g_aload_n (pc := 13) C d_Mo_isDark_13 rfl 0 rfl ?_
    obtain ⟨b3, hnb3, hb3, h⟩ := o_ra h
    refine g_get (pc := 14) (k := 16) (v := va_rf ((N a0 16).map ad)) C gcX11 inX11 (by decide) fl_Mo_38 ha0 rfl d_Mo_isDark_14 ?_
    refine g_top (g_rf hnb3) ?_
    refine g_iload_n (pc := 17) C d_Mo_isDark_17 rfl 1 rfl ?_
    obtain ⟨hi4, h⟩ := o_gd h
    refine g_lald (pc := 18) C hb3 hi4 d_Mo_isDark_18 ?_
    obtain ⟨hi5, h⟩ := o_gd h
    refine g_last (pc := 19) C hb2 hi5 d_Mo_isDark_19 ?_
    obtain ⟨J6, eJ6, h⟩ := o_bd h
    rw [← eJ6]
    refine g_iinc (pc := 20) (q := 1) (lv' := [(1, .int (x1 + 1)), (0, .ref (ad a0))]) C d_Mo_isDark_20 rfl rfl (by decide) rfl ?_
    refine g_goto (pc := 23) C 2 d_Mo_isDark_23 rfl ?_
    refine g_lv [1, 0] rfl ?_
    exact hk2 _ _ h
set_option maxRecDepth 20000 in
theorem w_Mo_isDark_2 {X : HX} {ad : Nat → Nat} {I : HI} {N : HN} {r : HJ × Int32} {a0 : Nat} (C : Cx X c_Mo_isDark RX11 4 (some .boolean) rm_Mo_isDark) (ha0 : gk Tm nM a0 (0, 11)) : ∀ (n : Nat) (J : HJ) (x1 : Int32), Mo_isDark_2 I N a0 n J x1 = some r → G Tm X ad nM 0 0 I J N (gE X Tm ad nM (I, r.1, N, fun _ => some (.int r.2))) 2 4 [(0, .ref (ad a0)), (1, .int x1)] [] := by
  intro n
  induction n with
  | zero => intro J x1 h; cases h
  | succ n ih => intro J x1 h; exact w_Mo_isDark_2b C ha0 ih h
set_option maxRecDepth 20000 in
theorem w_Mo_isDark_0 {X : HX} {ad : Nat → Nat} {I : HI} {J : HJ} {N : HN} {r : HJ × Int32} {a0 : Nat} (C : Cx X c_Mo_isDark RX11 4 (some .boolean) rm_Mo_isDark) (ha0 : gk Tm nM a0 (0, 11))
    (h : Mo_isDark_0 I N a0 J = some r) : G Tm X ad nM 0 0 I J N (gE X Tm ad nM (I, r.1, N, fun _ => some (.int r.2))) 0 4 [(0, .ref (ad a0))] [] := by
  refine g_iconst (pc := 0) C (0 : Int32) d_Mo_isDark_0 (by decide) ?_
  refine g_istore_n (pc := 1) (lv' := [(1, .int (0 : Int32)), (0, .ref (ad a0))]) C d_Mo_isDark_1 rfl (by decide) rfl ?_
  refine g_lv [1, 0] rfl ?_
  exact w_Mo_isDark_2 C ha0 _ _ _ h
set_option maxRecDepth 20000 in
theorem k_Mo_isDark (l : Launch) {I : HI} {J : HJ} {N : HN} {a0 : Nat} {r : HJ × Int32} (ha0 : gk Tm nM a0 (0, 11)) (h : Mo_isDark I N a0 J = some r) : gM l y_Mo_isDark c_Mo_isDark 4 (some .boolean) rm_Mo_isDark Tm nM I J N (fun ad => [.ref (ad a0)]) (I, r.1, N, fun _ => some (.int r.2)) :=
  g_meth (lv := fun ad => [(0, .ref (ad a0))]) (by decide) (fun _ => Nat.le_of_ble_eq_true rfl) (fun _ => rfl) (fun X ad C => g_lv [0] rfl (w_Mo_isDark_0 C ha0 h))
theorem d_Mo_isRoot_0 : decode c_Mo_isRoot 0 = .ok (.aload_n 0, 1) := by decide +kernel
theorem d_Mo_isRoot_1 : decode c_Mo_isRoot 1 = .ok (.getfield 38, 3) := by decide +kernel
theorem d_Mo_isRoot_4 : decode c_Mo_isRoot 4 = .ok (.lconst 0, 1) := by decide +kernel
theorem d_Mo_isRoot_5 : decode c_Mo_isRoot 5 = .ok (.aload_n 0, 1) := by decide +kernel
theorem d_Mo_isRoot_6 : decode c_Mo_isRoot 6 = .ok (.getfield 47, 3) := by decide +kernel
theorem d_Mo_isRoot_9 : decode c_Mo_isRoot 9 = .ok (.iload_n 1, 1) := by decide +kernel
theorem d_Mo_isRoot_10 : decode c_Mo_isRoot 10 = .ok (.iaload, 1) := by decide +kernel
theorem d_Mo_isRoot_11 : decode c_Mo_isRoot 11 = .ok (.i2l, 1) := by decide +kernel
theorem d_Mo_isRoot_12 : decode c_Mo_isRoot 12 = .ok (.lsub, 1) := by decide +kernel
theorem d_Mo_isRoot_13 : decode c_Mo_isRoot 13 = .ok (.aload_n 0, 1) := by decide +kernel
theorem d_Mo_isRoot_14 : decode c_Mo_isRoot 14 = .ok (.getfield 50, 3) := by decide +kernel
theorem d_Mo_isRoot_17 : decode c_Mo_isRoot 17 = .ok (.iload_n 1, 1) := by decide +kernel
theorem d_Mo_isRoot_18 : decode c_Mo_isRoot 18 = .ok (.iaload, 1) := by decide +kernel
theorem d_Mo_isRoot_19 : decode c_Mo_isRoot 19 = .ok (.i2l, 1) := by decide +kernel
theorem d_Mo_isRoot_20 : decode c_Mo_isRoot 20 = .ok (.invokestatic 217, 3) := by decide +kernel
theorem d_Mo_isRoot_23 : decode c_Mo_isRoot 23 = .ok (.lconst 0, 1) := by decide +kernel
theorem d_Mo_isRoot_24 : decode c_Mo_isRoot 24 = .ok (.lcmp, 1) := by decide +kernel
theorem d_Mo_isRoot_25 : decode c_Mo_isRoot 25 = .ok (.ifCond .ne 7, 3) := by decide +kernel
theorem d_Mo_isRoot_28 : decode c_Mo_isRoot 28 = .ok (.iconst 1, 1) := by decide +kernel
theorem d_Mo_isRoot_29 : decode c_Mo_isRoot 29 = .ok (.goto 4, 3) := by decide +kernel
theorem d_Mo_isRoot_32 : decode c_Mo_isRoot 32 = .ok (.iconst 0, 1) := by decide +kernel
theorem d_Mo_isRoot_33 : decode c_Mo_isRoot 33 = .ok (.ireturn, 1) := by decide +kernel
set_option maxRecDepth 20000 in
theorem w_Mo_isRoot_0 {X : HX} {ad : Nat → Nat} {I : HI} {J : HJ} {N : HN} {r : Int32} {a0 : Nat} {p1 : Int32} (C : Cx X c_Mo_isRoot RX11 2 (some .boolean) rm_Mo_isRoot) (ha0 : gk Tm nM a0 (0, 11))
    (h : Mo_isRoot_0 I J N a0 p1 = some r) : G Tm X ad nM 0 0 I J N (gE X Tm ad nM (I, J, N, fun _ => some (.int r))) 0 2 [(0, .ref (ad a0)), (1, .int p1)] [] := by
  refine g_aload_n (pc := 0) C d_Mo_isRoot_0 rfl 0 rfl ?_
  obtain ⟨b1, hnb1, hb1, h⟩ := o_ra h
  refine g_get (pc := 1) (k := 16) (v := va_rf ((N a0 16).map ad)) C gcX11 inX11 (by decide) fl_Mo_38 ha0 rfl d_Mo_isRoot_1 ?_
  refine g_top (g_rf hnb1) ?_
  refine g_lconst (pc := 4) C (0 : Int64) d_Mo_isRoot_4 (by decide) ?_
  refine g_aload_n (pc := 5) C d_Mo_isRoot_5 rfl 0 rfl ?_
  obtain ⟨b2, hnb2, hb2, h⟩ := o_ra h
  refine g_get (pc := 6) (k := 19) (v := va_rf ((N a0 19).map ad)) C gcX11 inX11 (by decide) fl_Mo_47 ha0 rfl d_Mo_isRoot_6 ?_
  refine g_top (g_rf hnb2) ?_
  refine g_iload_n (pc := 9) C d_Mo_isRoot_9 rfl 1 rfl ?_
  obtain ⟨hi3, h⟩ := o_gd h
  refine g_iald (pc := 10) C hb2 hi3 d_Mo_isRoot_10 ?_
  refine g_i2l (pc := 11) C d_Mo_isRoot_11 ?_
  refine g_lsub (pc := 12) C d_Mo_isRoot_12 ?_
  refine g_aload_n (pc := 13) C d_Mo_isRoot_13 rfl 0 rfl ?_
  obtain ⟨b4, hnb4, hb4, h⟩ := o_ra h
  refine g_get (pc := 14) (k := 20) (v := va_rf ((N a0 20).map ad)) C gcX11 inX11 (by decide) fl_Mo_50 ha0 rfl d_Mo_isRoot_14 ?_
  refine g_top (g_rf hnb4) ?_
  refine g_iload_n (pc := 17) C d_Mo_isRoot_17 rfl 1 rfl ?_
  obtain ⟨hi5, h⟩ := o_gd h
  refine g_iald (pc := 18) C hb4 hi5 d_Mo_isRoot_18 ?_
  refine g_i2l (pc := 19) C d_Mo_isRoot_19 ?_
  obtain ⟨r6, hc7, h⟩ := o_bn1 h
  refine g_S (pc := 20) (rest := []) C (k_Mo_valueAt (xl X) hb1 hc7) sm_Mo_valueAt ml_Mo_217 st_Mo_valueAt ⟨rfl, rfl, Nat.le_of_ble_eq_true rfl, Nat.le_of_ble_eq_true rfl⟩ ⟨Nat.zero_le _, Nat.zero_le _⟩ rfl rfl (Nat.le_of_ble_eq_true rfl) d_Mo_isRoot_20 [.long r6] rfl ?_
  refine g_lconst (pc := 23) C (0 : Int64) d_Mo_isRoot_23 (by decide) ?_
  refine g_lcmp_ne (pc := 24) C 32 d_Mo_isRoot_24 d_Mo_isRoot_25 rfl (fun e8 => ?_) (fun e8 => ?_)
  · have h := o_neg e8 h
    refine g_iconst (pc := 32) C (0 : Int32) d_Mo_isRoot_32 (by decide) ?_
    obtain rfl := o_ret h
    exact g_zret (pc := 33) C zn_0 d_Mo_isRoot_33
  · have h := o_pos e8 h
    refine g_iconst (pc := 28) C (1 : Int32) d_Mo_isRoot_28 (by decide) ?_
    refine g_goto (pc := 29) C 33 d_Mo_isRoot_29 rfl ?_
    obtain rfl := o_ret h
    exact g_zret (pc := 33) C zn_1 d_Mo_isRoot_33
set_option maxRecDepth 20000 in
theorem k_Mo_isRoot (l : Launch) {I : HI} {J : HJ} {N : HN} {a0 : Nat} {p1 : Int32} {r : Int32} (ha0 : gk Tm nM a0 (0, 11)) (h : Mo_isRoot I J N a0 p1 = some r) : gM l y_Mo_isRoot c_Mo_isRoot 2 (some .boolean) rm_Mo_isRoot Tm nM I J N (fun ad => [.ref (ad a0), .int p1]) (I, J, N, fun _ => some (.int r)) :=
  g_meth (lv := fun ad => [(0, .ref (ad a0)), (1, .int p1)]) (by decide) (fun _ => Nat.le_of_ble_eq_true rfl) (fun _ => rfl) (fun X ad C => g_lv [0, 1] rfl (w_Mo_isRoot_0 C ha0 h))
theorem d_Mo_slopes_0 : decode c_Mo_slopes 0 = .ok (.iconst 0, 1) := by decide +kernel
theorem d_Mo_slopes_1 : decode c_Mo_slopes 1 = .ok (.istore_n 1, 1) := by decide +kernel
theorem d_Mo_slopes_2 : decode c_Mo_slopes 2 = .ok (.iload_n 1, 1) := by decide +kernel
theorem d_Mo_slopes_3 : decode c_Mo_slopes 3 = .ok (.bipush 6, 2) := by decide +kernel
theorem d_Mo_slopes_5 : decode c_Mo_slopes 5 = .ok (.if_icmp .ge 28, 3) := by decide +kernel
theorem d_Mo_slopes_8 : decode c_Mo_slopes 8 = .ok (.aload_n 0, 1) := by decide +kernel
theorem d_Mo_slopes_9 : decode c_Mo_slopes 9 = .ok (.getfield 53, 3) := by decide +kernel
theorem d_Mo_slopes_12 : decode c_Mo_slopes 12 = .ok (.iload_n 1, 1) := by decide +kernel
theorem d_Mo_slopes_13 : decode c_Mo_slopes 13 = .ok (.iload_n 1, 1) := by decide +kernel
theorem d_Mo_slopes_14 : decode c_Mo_slopes 14 = .ok (.iconst 1, 1) := by decide +kernel
theorem d_Mo_slopes_15 : decode c_Mo_slopes 15 = .ok (.iadd, 1) := by decide +kernel
theorem d_Mo_slopes_16 : decode c_Mo_slopes 16 = .ok (.i2l, 1) := by decide +kernel
theorem d_Mo_slopes_17 : decode c_Mo_slopes 17 = .ok (.aload_n 0, 1) := by decide +kernel
theorem d_Mo_slopes_18 : decode c_Mo_slopes 18 = .ok (.getfield 38, 3) := by decide +kernel
theorem d_Mo_slopes_21 : decode c_Mo_slopes 21 = .ok (.iload_n 1, 1) := by decide +kernel
theorem d_Mo_slopes_22 : decode c_Mo_slopes 22 = .ok (.iconst 1, 1) := by decide +kernel
theorem d_Mo_slopes_23 : decode c_Mo_slopes 23 = .ok (.iadd, 1) := by decide +kernel
theorem d_Mo_slopes_24 : decode c_Mo_slopes 24 = .ok (.laload, 1) := by decide +kernel
theorem d_Mo_slopes_25 : decode c_Mo_slopes 25 = .ok (.lmul, 1) := by decide +kernel
theorem d_Mo_slopes_26 : decode c_Mo_slopes 26 = .ok (.lastore, 1) := by decide +kernel
theorem d_Mo_slopes_27 : decode c_Mo_slopes 27 = .ok (.iinc 1 1, 3) := by decide +kernel
theorem d_Mo_slopes_30 : decode c_Mo_slopes 30 = .ok (.goto (-28), 3) := by decide +kernel
theorem d_Mo_slopes_33 : decode c_Mo_slopes 33 = .ok (.aload_n 0, 1) := by decide +kernel
theorem d_Mo_slopes_34 : decode c_Mo_slopes 34 = .ok (.getfield 53, 3) := by decide +kernel
theorem d_Mo_slopes_37 : decode c_Mo_slopes 37 = .ok (.bipush 6, 2) := by decide +kernel
theorem d_Mo_slopes_39 : decode c_Mo_slopes 39 = .ok (.lconst 0, 1) := by decide +kernel
theorem d_Mo_slopes_40 : decode c_Mo_slopes 40 = .ok (.lastore, 1) := by decide +kernel
theorem d_Mo_slopes_41 : decode c_Mo_slopes 41 = .ok (.return_, 1) := by decide +kernel
set_option maxRecDepth 20000 in
theorem w_Mo_slopes_2b {X : HX} {ad : Nat → Nat} {I : HI} {J : HJ} {N : HN} {r : HJ} {k2 : HJ → Int32 → Option (HJ)} {a0 : Nat} {x1 : Int32} (C : Cx X c_Mo_slopes RX11 2 none rm_Mo_slopes) (ha0 : gk Tm nM a0 (0, 11))
    (hk2 : ∀ (J : HJ) (x1 : Int32), k2 J x1 = some r → G Tm X ad nM 0 0 I J N (gE X Tm ad nM (I, r, N, fun _ => none)) 2 2 [(0, .ref (ad a0)), (1, .int x1)] [])
    (h : Mo_slopes_2b N a0 k2 J x1 = some r) : G Tm X ad nM 0 0 I J N (gE X Tm ad nM (I, r, N, fun _ => none)) 2 2 [(0, .ref (ad a0)), (1, .int x1)] [] := by
  refine g_iload_n (pc := 2) C d_Mo_slopes_2 rfl 1 rfl ?_
  refine g_bipush (pc := 3) C (6 : Int32) d_Mo_slopes_3 (by decide) ?_
  refine g_icmp_ge (pc := 5) C 33 d_Mo_slopes_5 rfl (fun e1 => ?_) (fun e1 => ?_)
  · have h := o_pos e1 h
    refine g_aload_n (pc := 33) C d_Mo_slopes_33 rfl 0 rfl ?_
    obtain ⟨b2, hnb2, hb2, h⟩ := o_ra h
    refine g_get (pc := 34) (k := 22) (v := va_rf ((N a0 22).map ad)) C gcX11 inX11 (by decide) fl_Mo_53 ha0 rfl d_Mo_slopes_34 ?_
    refine g_top (g_rf hnb2) ?_
    refine g_bipush (pc := 37) C (6 : Int32) d_Mo_slopes_37 (by decide) ?_
    refine g_lconst (pc := 39) C (0 : Int64) d_Mo_slopes_39 (by decide) ?_
    obtain ⟨hi3, h⟩ := o_gd h
    refine g_last (pc := 40) C hb2 hi3 d_Mo_slopes_40 ?_
    obtain ⟨J4, eJ4, h⟩ := o_bd h
    rw [← eJ4]
    obtain rfl := o_ret h
    exact g_vret (pc := 41) C d_Mo_slopes_41
  · have h := o_neg e1 h
    refine g_aload_n (pc := 8) C d_Mo_slopes_8 rfl 0 rfl ?_
    obtain ⟨b5, hnb5, hb5, h⟩ := o_ra h
    refine g_get (pc := 9) (k := 22) (v := va_rf ((N a0 22).map ad)) C gcX11 inX11 (by decide) fl_Mo_53 ha0 rfl d_Mo_slopes_9 ?_
    refine g_top (g_rf hnb5) ?_
    refine g_iload_n (pc := 12) C d_Mo_slopes_12 rfl 1 rfl ?_
    refine g_iload_n (pc := 13) C d_Mo_slopes_13 rfl 1 rfl ?_
    refine g_iconst (pc := 14) C (1 : Int32) d_Mo_slopes_14 (by decide) ?_
    refine g_iadd (pc := 15) C d_Mo_slopes_15 ?_
    refine g_i2l (pc := 16) C d_Mo_slopes_16 ?_
    refine g_aload_n (pc := 17) C d_Mo_slopes_17 rfl 0 rfl ?_
    obtain ⟨b6, hnb6, hb6, h⟩ := o_ra h
    refine g_get (pc := 18) (k := 16) (v := va_rf ((N a0 16).map ad)) C gcX11 inX11 (by decide) fl_Mo_38 ha0 rfl d_Mo_slopes_18 ?_
    refine g_top (g_rf hnb6) ?_
    refine g_iload_n (pc := 21) C d_Mo_slopes_21 rfl 1 rfl ?_
    refine g_iconst (pc := 22) C (1 : Int32) d_Mo_slopes_22 (by decide) ?_
    refine g_iadd (pc := 23) C d_Mo_slopes_23 ?_
    obtain ⟨hi7, h⟩ := o_gd h
    refine g_lald (pc := 24) C hb6 hi7 d_Mo_slopes_24 ?_
    refine g_lmul (pc := 25) C d_Mo_slopes_25 ?_
    obtain ⟨hi8, h⟩ := o_gd h
    refine g_last (pc := 26) C hb5 hi8 d_Mo_slopes_26 ?_
    obtain ⟨J9, eJ9, h⟩ := o_bd h
    rw [← eJ9]
    refine g_iinc (pc := 27) (q := 1) (lv' := [(1, .int (x1 + 1)), (0, .ref (ad a0))]) C d_Mo_slopes_27 rfl rfl (by decide) rfl ?_
    refine g_goto (pc := 30) C 2 d_Mo_slopes_30 rfl ?_
    refine g_lv [1, 0] rfl ?_
    exact hk2 _ _ h
set_option maxRecDepth 20000 in
theorem w_Mo_slopes_2 {X : HX} {ad : Nat → Nat} {I : HI} {N : HN} {r : HJ} {a0 : Nat} (C : Cx X c_Mo_slopes RX11 2 none rm_Mo_slopes) (ha0 : gk Tm nM a0 (0, 11)) : ∀ (n : Nat) (J : HJ) (x1 : Int32), Mo_slopes_2 N a0 n J x1 = some r → G Tm X ad nM 0 0 I J N (gE X Tm ad nM (I, r, N, fun _ => none)) 2 2 [(0, .ref (ad a0)), (1, .int x1)] [] := by
  intro n
  induction n with
  | zero => intro J x1 h; cases h
  | succ n ih => intro J x1 h; exact w_Mo_slopes_2b C ha0 ih h
set_option maxRecDepth 20000 in
theorem w_Mo_slopes_0 {X : HX} {ad : Nat → Nat} {I : HI} {J : HJ} {N : HN} {r : HJ} {a0 : Nat} (C : Cx X c_Mo_slopes RX11 2 none rm_Mo_slopes) (ha0 : gk Tm nM a0 (0, 11))
    (h : Mo_slopes_0 N a0 J = some r) : G Tm X ad nM 0 0 I J N (gE X Tm ad nM (I, r, N, fun _ => none)) 0 2 [(0, .ref (ad a0))] [] := by
  refine g_iconst (pc := 0) C (0 : Int32) d_Mo_slopes_0 (by decide) ?_
  refine g_istore_n (pc := 1) (lv' := [(1, .int (0 : Int32)), (0, .ref (ad a0))]) C d_Mo_slopes_1 rfl (by decide) rfl ?_
  refine g_lv [1, 0] rfl ?_
  exact w_Mo_slopes_2 C ha0 _ _ _ h
set_option maxRecDepth 20000 in
theorem k_Mo_slopes (l : Launch) {I : HI} {J : HJ} {N : HN} {a0 : Nat} {r : HJ} (ha0 : gk Tm nM a0 (0, 11)) (h : Mo_slopes N a0 J = some r) : gM l y_Mo_slopes c_Mo_slopes 2 none rm_Mo_slopes Tm nM I J N (fun ad => [.ref (ad a0)]) (I, r, N, fun _ => none) :=
  g_meth (lv := fun ad => [(0, .ref (ad a0))]) (by decide) (fun _ => Nat.le_of_ble_eq_true rfl) (fun _ => rfl) (fun X ad C => g_lv [0] rfl (w_Mo_slopes_0 C ha0 h))
theorem d_Mo_alone_0 : decode c_Mo_alone 0 = .ok (.lload 4, 2) := by decide +kernel
theorem d_Mo_alone_2 : decode c_Mo_alone 2 = .ok (.lconst 0, 1) := by decide +kernel
theorem d_Mo_alone_3 : decode c_Mo_alone 3 = .ok (.lcmp, 1) := by decide +kernel
theorem d_Mo_alone_4 : decode c_Mo_alone 4 = .ok (.ifCond .eq 30, 3) := by decide +kernel
theorem d_Mo_alone_7 : decode c_Mo_alone 7 = .ok (.lload 4, 2) := by decide +kernel
theorem d_Mo_alone_9 : decode c_Mo_alone 9 = .ok (.lconst 0, 1) := by decide +kernel
theorem d_Mo_alone_10 : decode c_Mo_alone 10 = .ok (.lcmp, 1) := by decide +kernel
theorem d_Mo_alone_11 : decode c_Mo_alone 11 = .ok (.ifCond .ge 7, 3) := by decide +kernel
theorem d_Mo_alone_14 : decode c_Mo_alone 14 = .ok (.iconst 1, 1) := by decide +kernel
theorem d_Mo_alone_15 : decode c_Mo_alone 15 = .ok (.goto 4, 3) := by decide +kernel
theorem d_Mo_alone_18 : decode c_Mo_alone 18 = .ok (.iconst 0, 1) := by decide +kernel
theorem d_Mo_alone_19 : decode c_Mo_alone 19 = .ok (.lload 6, 2) := by decide +kernel
theorem d_Mo_alone_21 : decode c_Mo_alone 21 = .ok (.lconst 0, 1) := by decide +kernel
theorem d_Mo_alone_22 : decode c_Mo_alone 22 = .ok (.lcmp, 1) := by decide +kernel
theorem d_Mo_alone_23 : decode c_Mo_alone 23 = .ok (.ifCond .ge 7, 3) := by decide +kernel
theorem d_Mo_alone_26 : decode c_Mo_alone 26 = .ok (.iconst 1, 1) := by decide +kernel
theorem d_Mo_alone_27 : decode c_Mo_alone 27 = .ok (.goto 4, 3) := by decide +kernel
theorem d_Mo_alone_30 : decode c_Mo_alone 30 = .ok (.iconst 0, 1) := by decide +kernel
theorem d_Mo_alone_31 : decode c_Mo_alone 31 = .ok (.if_icmp .eq 8, 3) := by decide +kernel
theorem d_Mo_alone_34 : decode c_Mo_alone 34 = .ok (.bipush (-100), 2) := by decide +kernel
theorem d_Mo_alone_36 : decode c_Mo_alone 36 = .ok (.iload_n 3, 1) := by decide +kernel
theorem d_Mo_alone_37 : decode c_Mo_alone 37 = .ok (.isub, 1) := by decide +kernel
theorem d_Mo_alone_38 : decode c_Mo_alone 38 = .ok (.ireturn, 1) := by decide +kernel
theorem d_Mo_alone_39 : decode c_Mo_alone 39 = .ok (.aload_n 0, 1) := by decide +kernel
theorem d_Mo_alone_40 : decode c_Mo_alone 40 = .ok (.iload_n 3, 1) := by decide +kernel
theorem d_Mo_alone_41 : decode c_Mo_alone 41 = .ok (.ifCond .ne 8, 3) := by decide +kernel
theorem d_Mo_alone_44 : decode c_Mo_alone 44 = .ok (.lload 4, 2) := by decide +kernel
theorem d_Mo_alone_46 : decode c_Mo_alone 46 = .ok (.goto 5, 3) := by decide +kernel
theorem d_Mo_alone_49 : decode c_Mo_alone 49 = .ok (.lload 6, 2) := by decide +kernel
theorem d_Mo_alone_51 : decode c_Mo_alone 51 = .ok (.iload_n 3, 1) := by decide +kernel
theorem d_Mo_alone_52 : decode c_Mo_alone 52 = .ok (.ifCond .ne 8, 3) := by decide +kernel
theorem d_Mo_alone_55 : decode c_Mo_alone 55 = .ok (.lload 6, 2) := by decide +kernel
theorem d_Mo_alone_57 : decode c_Mo_alone 57 = .ok (.goto 5, 3) := by decide +kernel
theorem d_Mo_alone_60 : decode c_Mo_alone 60 = .ok (.lload 4, 2) := by decide +kernel
theorem d_Mo_alone_62 : decode c_Mo_alone 62 = .ok (.invokevirtual 203, 3) := by decide +kernel
theorem d_Mo_alone_65 : decode c_Mo_alone 65 = .ok (.aload_n 0, 1) := by decide +kernel
theorem d_Mo_alone_66 : decode c_Mo_alone 66 = .ok (.invokevirtual 207, 3) := by decide +kernel
theorem d_Mo_alone_69 : decode c_Mo_alone 69 = .ok (.ifCond .ne 6, 3) := by decide +kernel
theorem d_Mo_alone_72 : decode c_Mo_alone 72 = .ok (.bipush (-5), 2) := by decide +kernel
theorem d_Mo_alone_74 : decode c_Mo_alone 74 = .ok (.ireturn, 1) := by decide +kernel
theorem d_Mo_alone_75 : decode c_Mo_alone 75 = .ok (.aload_n 0, 1) := by decide +kernel
theorem d_Mo_alone_76 : decode c_Mo_alone 76 = .ok (.iload_n 1, 1) := by decide +kernel
theorem d_Mo_alone_77 : decode c_Mo_alone 77 = .ok (.iconst 2, 1) := by decide +kernel
theorem d_Mo_alone_78 : decode c_Mo_alone 78 = .ok (.isub, 1) := by decide +kernel
theorem d_Mo_alone_79 : decode c_Mo_alone 79 = .ok (.invokevirtual 210, 3) := by decide +kernel
theorem d_Mo_alone_82 : decode c_Mo_alone 82 = .ok (.aload_n 0, 1) := by decide +kernel
theorem d_Mo_alone_83 : decode c_Mo_alone 83 = .ok (.iload_n 2, 1) := by decide +kernel
theorem d_Mo_alone_84 : decode c_Mo_alone 84 = .ok (.invokevirtual 214, 3) := by decide +kernel
theorem d_Mo_alone_87 : decode c_Mo_alone 87 = .ok (.aload_n 0, 1) := by decide +kernel
theorem d_Mo_alone_88 : decode c_Mo_alone 88 = .ok (.dup, 1) := by decide +kernel
theorem d_Mo_alone_89 : decode c_Mo_alone 89 = .ok (.getfield 175, 3) := by decide +kernel
theorem d_Mo_alone_92 : decode c_Mo_alone 92 = .ok (.iconst 1, 1) := by decide +kernel
theorem d_Mo_alone_93 : decode c_Mo_alone 93 = .ok (.iadd, 1) := by decide +kernel
theorem d_Mo_alone_94 : decode c_Mo_alone 94 = .ok (.putfield 175, 3) := by decide +kernel
theorem d_Mo_alone_97 : decode c_Mo_alone 97 = .ok (.iconst 0, 1) := by decide +kernel
theorem d_Mo_alone_98 : decode c_Mo_alone 98 = .ok (.ireturn, 1) := by decide +kernel
set_option maxRecDepth 20000 in
theorem w_Mo_alone_62 {X : HX} {ad : Nat → Nat} {I : HI} {J : HJ} {N : HN} {r : HI × HJ × Int32} {a0 : Nat} {p1 : Int32} {p2 : Int32} {p3 : Int32} {p4 : Int64} {p6 : Int64} {bs0 : Nat} {s1 : Int64} {s2 : Int64} (C : Cx X c_Mo_alone RX11 8 (some .int) rm_Mo_alone) (ha0 : gk Tm nM a0 (0, 11)) (hbs0 : gk Tm nM bs0 (0, 11))
    (h : Mo_alone_62 N a0 p1 p2 p3 p4 p6 I J bs0 s1 s2 = some r) : G Tm X ad nM 0 0 I J N (gE X Tm ad nM (r.1, r.2.1, N, fun _ => some (.int r.2.2))) 62 8 [(0, .ref (ad a0)), (1, .int p1), (2, .int p2)] [.long s2, .long s1, .ref (ad bs0)] := by
  obtain ⟨J1, hc2, h⟩ := o_bn1 h
  refine g_V (pc := 62) (rest := []) C (k_Mo_takes (xl X) hbs0 hc2) sm_Mo_takes ml_Mo_203 im_Mo_takes se_Mo_takes gcX11 rfl hbs0 ⟨rfl, rfl, Nat.le_of_ble_eq_true rfl, Nat.le_of_ble_eq_true rfl⟩ ⟨Nat.zero_le _, Nat.zero_le _⟩ rfl rfl (Nat.le_of_ble_eq_true rfl) d_Mo_alone_62 [] rfl ?_
  refine g_aload_n (pc := 65) C d_Mo_alone_65 rfl 0 rfl ?_
  obtain ⟨r3, hc4, h⟩ := o_bn1 h
  refine g_V (pc := 66) (rest := []) C (k_Mo_isHandy (xl X) ha0 hc4) sm_Mo_isHandy ml_Mo_207 im_Mo_isHandy se_Mo_isHandy gcX11 rfl ha0 ⟨rfl, rfl, Nat.le_of_ble_eq_true rfl, Nat.le_of_ble_eq_true rfl⟩ ⟨Nat.zero_le _, Nat.zero_le _⟩ rfl rfl (Nat.le_of_ble_eq_true rfl) d_Mo_alone_66 [.int r3] rfl ?_
  refine g_if_ne (pc := 69) C 75 d_Mo_alone_69 rfl (fun e5 => ?_) (fun e5 => ?_)
  · have h := o_neg e5 h
    refine g_aload_n (pc := 75) C d_Mo_alone_75 rfl 0 rfl ?_
    refine g_iload_n (pc := 76) C d_Mo_alone_76 rfl 1 rfl ?_
    refine g_iconst (pc := 77) C (2 : Int32) d_Mo_alone_77 (by decide) ?_
    refine g_isub (pc := 78) C d_Mo_alone_78 ?_
    obtain ⟨I6, hc7, h⟩ := o_bn1 h
    refine g_V (pc := 79) (rest := []) C (k_Mo_makes (xl X) ha0 hc7) sm_Mo_makes ml_Mo_210 im_Mo_makes se_Mo_makes gcX11 rfl ha0 ⟨rfl, rfl, Nat.le_of_ble_eq_true rfl, Nat.le_of_ble_eq_true rfl⟩ ⟨Nat.zero_le _, Nat.zero_le _⟩ rfl rfl (Nat.le_of_ble_eq_true rfl) d_Mo_alone_79 [] rfl ?_
    refine g_aload_n (pc := 82) C d_Mo_alone_82 rfl 0 rfl ?_
    refine g_iload_n (pc := 83) C d_Mo_alone_83 rfl 2 rfl ?_
    obtain ⟨I8, hc9, h⟩ := o_bn1 h
    refine g_V (pc := 84) (rest := []) C (k_Mo_lays (xl X) ha0 hc9) sm_Mo_lays ml_Mo_214 im_Mo_lays se_Mo_lays gcX11 rfl ha0 ⟨rfl, rfl, Nat.le_of_ble_eq_true rfl, Nat.le_of_ble_eq_true rfl⟩ ⟨Nat.zero_le _, Nat.zero_le _⟩ rfl rfl (Nat.le_of_ble_eq_true rfl) d_Mo_alone_84 [] rfl ?_
    refine g_aload_n (pc := 87) C d_Mo_alone_87 rfl 0 rfl ?_
    refine g_dup (pc := 88) C d_Mo_alone_88 rfl ?_
    refine g_get (pc := 89) (k := 8) (v := .int (I8 a0 8)) C gcX11 inX11 (by decide) fl_Mo_175 ha0 rfl d_Mo_alone_89 ?_
    refine g_iconst (pc := 92) C (1 : Int32) d_Mo_alone_92 (by decide) ?_
    refine g_iadd (pc := 93) C d_Mo_alone_93 ?_
    refine g_put (pc := 94) (I' := up2 I8 a0 8 ((I8 a0 8) + (1 : Int32))) (J' := J1) (N' := N) (k := 8) C gcX11 inX11 tyX11_ok nmX11 (by decide) fl_Mo_175 rfl ha0 (tyX11_ok 8 (by decide)) rfl rfl (Nat.le_of_ble_eq_true rfl) gs_11_8 (fun b hb => up2_of hb) (fun _ _ => rfl) (fun _ _ => rfl) d_Mo_alone_94 ?_
    obtain ⟨I10, eI10, h⟩ := o_bd h
    rw [← eI10]
    refine g_iconst (pc := 97) C (0 : Int32) d_Mo_alone_97 (by decide) ?_
    obtain rfl := o_ret h
    exact g_iret (pc := 98) C d_Mo_alone_98
  · have h := o_pos e5 h
    refine g_bipush (pc := 72) C (-5 : Int32) d_Mo_alone_72 (by decide) ?_
    obtain rfl := o_ret h
    exact g_iret (pc := 74) C d_Mo_alone_74
set_option maxRecDepth 20000 in
theorem w_Mo_alone_51 {X : HX} {ad : Nat → Nat} {I : HI} {J : HJ} {N : HN} {r : HI × HJ × Int32} {a0 : Nat} {p1 : Int32} {p2 : Int32} {p3 : Int32} {p4 : Int64} {p6 : Int64} {bs0 : Nat} {s1 : Int64} (C : Cx X c_Mo_alone RX11 8 (some .int) rm_Mo_alone) (ha0 : gk Tm nM a0 (0, 11)) (hbs0 : gk Tm nM bs0 (0, 11))
    (h : Mo_alone_51 N a0 p1 p2 p3 p4 p6 I J bs0 s1 = some r) : G Tm X ad nM 0 0 I J N (gE X Tm ad nM (r.1, r.2.1, N, fun _ => some (.int r.2.2))) 51 8 [(0, .ref (ad a0)), (1, .int p1), (2, .int p2), (3, .int p3), (4, .long p4), (6, .long p6)] [.long s1, .ref (ad bs0)] := by
  refine g_iload_n (pc := 51) C d_Mo_alone_51 rfl 3 rfl ?_
  refine g_if_ne (pc := 52) C 60 d_Mo_alone_52 rfl (fun e1 => ?_) (fun e1 => ?_)
  · have h := o_neg e1 h
    refine g_lload (pc := 60) C d_Mo_alone_60 4 rfl ?_
    refine g_lv [0, 1, 2] rfl ?_
    exact w_Mo_alone_62 C ha0 hbs0 h
  · have h := o_pos e1 h
    refine g_lload (pc := 55) C d_Mo_alone_55 5 rfl ?_
    refine g_goto (pc := 57) C 62 d_Mo_alone_57 rfl ?_
    refine g_lv [0, 1, 2] rfl ?_
    exact w_Mo_alone_62 C ha0 hbs0 h
set_option maxRecDepth 20000 in
theorem w_Mo_alone_34 {X : HX} {ad : Nat → Nat} {I : HI} {J : HJ} {N : HN} {r : HI × HJ × Int32} {a0 : Nat} {p1 : Int32} {p2 : Int32} {p3 : Int32} {p4 : Int64} {p6 : Int64} (C : Cx X c_Mo_alone RX11 8 (some .int) rm_Mo_alone) (ha0 : gk Tm nM a0 (0, 11))
    (h : Mo_alone_34 N a0 p1 p2 p3 p4 p6 I J = some r) : G Tm X ad nM 0 0 I J N (gE X Tm ad nM (r.1, r.2.1, N, fun _ => some (.int r.2.2))) 34 8 [(3, .int p3)] [] := by
  refine g_bipush (pc := 34) C (-100 : Int32) d_Mo_alone_34 (by decide) ?_
  refine g_iload_n (pc := 36) C d_Mo_alone_36 rfl 0 rfl ?_
  refine g_isub (pc := 37) C d_Mo_alone_37 ?_
  obtain rfl := o_ret h
  exact g_iret (pc := 38) C d_Mo_alone_38
set_option maxRecDepth 20000 in
theorem w_Mo_alone_31 {X : HX} {ad : Nat → Nat} {I : HI} {J : HJ} {N : HN} {r : HI × HJ × Int32} {a0 : Nat} {p1 : Int32} {p2 : Int32} {p3 : Int32} {p4 : Int64} {p6 : Int64} {s0 : Int32} {s1 : Int32} (C : Cx X c_Mo_alone RX11 8 (some .int) rm_Mo_alone) (ha0 : gk Tm nM a0 (0, 11))
    (h : Mo_alone_31 N a0 p1 p2 p3 p4 p6 I J s0 s1 = some r) : G Tm X ad nM 0 0 I J N (gE X Tm ad nM (r.1, r.2.1, N, fun _ => some (.int r.2.2))) 31 8 [(0, .ref (ad a0)), (1, .int p1), (2, .int p2), (3, .int p3), (4, .long p4), (6, .long p6)] [.int s1, .int s0] := by
  refine g_icmp_eq (pc := 31) C 39 d_Mo_alone_31 rfl (fun e1 => ?_) (fun e1 => ?_)
  · have h := o_pos e1 h
    refine g_aload_n (pc := 39) C d_Mo_alone_39 rfl 0 rfl ?_
    refine g_iload_n (pc := 40) C d_Mo_alone_40 rfl 3 rfl ?_
    refine g_if_ne (pc := 41) C 49 d_Mo_alone_41 rfl (fun e2 => ?_) (fun e2 => ?_)
    · have h := o_neg e2 h
      refine g_lload (pc := 49) C d_Mo_alone_49 5 rfl ?_
      refine g_lv [0, 1, 2, 3, 4, 5] rfl ?_
      exact w_Mo_alone_51 C ha0 ha0 h
    · have h := o_pos e2 h
      refine g_lload (pc := 44) C d_Mo_alone_44 4 rfl ?_
      refine g_goto (pc := 46) C 51 d_Mo_alone_46 rfl ?_
      refine g_lv [0, 1, 2, 3, 4, 5] rfl ?_
      exact w_Mo_alone_51 C ha0 ha0 h
  · have h := o_neg e1 h
    refine g_lv [3] rfl ?_
    exact w_Mo_alone_34 C ha0 h
set_option maxRecDepth 20000 in
theorem w_Mo_alone_19 {X : HX} {ad : Nat → Nat} {I : HI} {J : HJ} {N : HN} {r : HI × HJ × Int32} {a0 : Nat} {p1 : Int32} {p2 : Int32} {p3 : Int32} {p4 : Int64} {p6 : Int64} {s0 : Int32} (C : Cx X c_Mo_alone RX11 8 (some .int) rm_Mo_alone) (ha0 : gk Tm nM a0 (0, 11))
    (h : Mo_alone_19 N a0 p1 p2 p3 p4 p6 I J s0 = some r) : G Tm X ad nM 0 0 I J N (gE X Tm ad nM (r.1, r.2.1, N, fun _ => some (.int r.2.2))) 19 8 [(0, .ref (ad a0)), (1, .int p1), (2, .int p2), (3, .int p3), (4, .long p4), (6, .long p6)] [.int s0] := by
  refine g_lload (pc := 19) C d_Mo_alone_19 5 rfl ?_
  refine g_lconst (pc := 21) C (0 : Int64) d_Mo_alone_21 (by decide) ?_
  refine g_lcmp_ge (pc := 22) C 30 d_Mo_alone_22 d_Mo_alone_23 rfl (fun e1 => ?_) (fun e1 => ?_)
  · have h := o_pos e1 h
    refine g_iconst (pc := 30) C (0 : Int32) d_Mo_alone_30 (by decide) ?_
    refine g_lv [0, 1, 2, 3, 4, 5] rfl ?_
    exact w_Mo_alone_31 C ha0 h
  · have h := o_neg e1 h
    refine g_iconst (pc := 26) C (1 : Int32) d_Mo_alone_26 (by decide) ?_
    refine g_goto (pc := 27) C 31 d_Mo_alone_27 rfl ?_
    refine g_lv [0, 1, 2, 3, 4, 5] rfl ?_
    exact w_Mo_alone_31 C ha0 h
set_option maxRecDepth 20000 in
theorem w_Mo_alone_0 {X : HX} {ad : Nat → Nat} {I : HI} {J : HJ} {N : HN} {r : HI × HJ × Int32} {a0 : Nat} {p1 : Int32} {p2 : Int32} {p3 : Int32} {p4 : Int64} {p6 : Int64} (C : Cx X c_Mo_alone RX11 8 (some .int) rm_Mo_alone) (ha0 : gk Tm nM a0 (0, 11))
    (h : Mo_alone_0 N a0 p1 p2 p3 p4 p6 I J = some r) : G Tm X ad nM 0 0 I J N (gE X Tm ad nM (r.1, r.2.1, N, fun _ => some (.int r.2.2))) 0 8 [(0, .ref (ad a0)), (1, .int p1), (2, .int p2), (3, .int p3), (4, .long p4), (6, .long p6)] [] := by
  refine g_lload (pc := 0) C d_Mo_alone_0 4 rfl ?_
  refine g_lconst (pc := 2) C (0 : Int64) d_Mo_alone_2 (by decide) ?_
  refine g_lcmp_eq (pc := 3) C 34 d_Mo_alone_3 d_Mo_alone_4 rfl (fun e1 => ?_) (fun e1 => ?_)
  · have h := o_pos e1 h
    refine g_lv [3] rfl ?_
    exact w_Mo_alone_34 C ha0 h
  · have h := o_neg e1 h
    refine g_lload (pc := 7) C d_Mo_alone_7 4 rfl ?_
    refine g_lconst (pc := 9) C (0 : Int64) d_Mo_alone_9 (by decide) ?_
    refine g_lcmp_ge (pc := 10) C 18 d_Mo_alone_10 d_Mo_alone_11 rfl (fun e2 => ?_) (fun e2 => ?_)
    · have h := o_pos e2 h
      refine g_iconst (pc := 18) C (0 : Int32) d_Mo_alone_18 (by decide) ?_
      refine g_lv [0, 1, 2, 3, 4, 5] rfl ?_
      exact w_Mo_alone_19 C ha0 h
    · have h := o_neg e2 h
      refine g_iconst (pc := 14) C (1 : Int32) d_Mo_alone_14 (by decide) ?_
      refine g_goto (pc := 15) C 19 d_Mo_alone_15 rfl ?_
      refine g_lv [0, 1, 2, 3, 4, 5] rfl ?_
      exact w_Mo_alone_19 C ha0 h
set_option maxRecDepth 20000 in
theorem k_Mo_alone (l : Launch) {I : HI} {J : HJ} {N : HN} {a0 : Nat} {p1 : Int32} {p2 : Int32} {p3 : Int32} {p4 : Int64} {p6 : Int64} {r : HI × HJ × Int32} (ha0 : gk Tm nM a0 (0, 11)) (h : Mo_alone N a0 p1 p2 p3 p4 p6 I J = some r) : gM l y_Mo_alone c_Mo_alone 8 (some .int) rm_Mo_alone Tm nM I J N (fun ad => [.ref (ad a0), .int p1, .int p2, .int p3, .long p4, .long p6]) (r.1, r.2.1, N, fun _ => some (.int r.2.2)) :=
  g_meth (lv := fun ad => [(0, .ref (ad a0)), (1, .int p1), (2, .int p2), (3, .int p3), (4, .long p4), (6, .long p6)]) (by decide) (fun _ => Nat.le_of_ble_eq_true rfl) (fun _ => rfl) (fun X ad C => g_lv [0, 1, 2, 3, 4, 5] rfl (w_Mo_alone_0 C ha0 h))
theorem d_Mo_ends_0 : decode c_Mo_ends 0 = .ok (.iconst 0, 1) := by decide +kernel
theorem d_Mo_ends_1 : decode c_Mo_ends 1 = .ok (.istore_n 2, 1) := by decide +kernel
theorem d_Mo_ends_2 : decode c_Mo_ends 2 = .ok (.aload_n 0, 1) := by decide +kernel
theorem d_Mo_ends_3 : decode c_Mo_ends 3 = .ok (.getfield 35, 3) := by decide +kernel
theorem d_Mo_ends_6 : decode c_Mo_ends 6 = .ok (.invokestatic 184, 3) := by decide +kernel
theorem d_Mo_ends_9 : decode c_Mo_ends 9 = .ok (.aload_n 0, 1) := by decide +kernel
theorem d_Mo_ends_10 : decode c_Mo_ends 10 = .ok (.getfield 38, 3) := by decide +kernel
theorem d_Mo_ends_13 : decode c_Mo_ends 13 = .ok (.invokestatic 184, 3) := by decide +kernel
theorem d_Mo_ends_16 : decode c_Mo_ends 16 = .ok (.if_icmp .le 68, 3) := by decide +kernel
theorem d_Mo_ends_19 : decode c_Mo_ends 19 = .ok (.aload_n 0, 1) := by decide +kernel
theorem d_Mo_ends_20 : decode c_Mo_ends 20 = .ok (.getfield 35, 3) := by decide +kernel
theorem d_Mo_ends_23 : decode c_Mo_ends 23 = .ok (.invokestatic 184, 3) := by decide +kernel
theorem d_Mo_ends_26 : decode c_Mo_ends 26 = .ok (.aload_n 0, 1) := by decide +kernel
theorem d_Mo_ends_27 : decode c_Mo_ends 27 = .ok (.getfield 38, 3) := by decide +kernel
theorem d_Mo_ends_30 : decode c_Mo_ends 30 = .ok (.invokestatic 184, 3) := by decide +kernel
theorem d_Mo_ends_33 : decode c_Mo_ends 33 = .ok (.iconst 1, 1) := by decide +kernel
theorem d_Mo_ends_34 : decode c_Mo_ends 34 = .ok (.iadd, 1) := by decide +kernel
theorem d_Mo_ends_35 : decode c_Mo_ends 35 = .ok (.if_icmp .le 8, 3) := by decide +kernel
theorem d_Mo_ends_38 : decode c_Mo_ends 38 = .ok (.bipush (-100), 2) := by decide +kernel
theorem d_Mo_ends_40 : decode c_Mo_ends 40 = .ok (.goto 43, 3) := by decide +kernel
theorem d_Mo_ends_43 : decode c_Mo_ends 43 = .ok (.aload_n 0, 1) := by decide +kernel
theorem d_Mo_ends_44 : decode c_Mo_ends 44 = .ok (.iload_n 1, 1) := by decide +kernel
theorem d_Mo_ends_45 : decode c_Mo_ends 45 = .ok (.iload_n 1, 1) := by decide +kernel
theorem d_Mo_ends_46 : decode c_Mo_ends 46 = .ok (.iconst 2, 1) := by decide +kernel
theorem d_Mo_ends_47 : decode c_Mo_ends 47 = .ok (.if_icmp .ne 7, 3) := by decide +kernel
theorem d_Mo_ends_50 : decode c_Mo_ends 50 = .ok (.iconst 1, 1) := by decide +kernel
theorem d_Mo_ends_51 : decode c_Mo_ends 51 = .ok (.goto 4, 3) := by decide +kernel
theorem d_Mo_ends_54 : decode c_Mo_ends 54 = .ok (.iconst 3, 1) := by decide +kernel
theorem d_Mo_ends_55 : decode c_Mo_ends 55 = .ok (.iconst 0, 1) := by decide +kernel
theorem d_Mo_ends_56 : decode c_Mo_ends 56 = .ok (.aload_n 0, 1) := by decide +kernel
theorem d_Mo_ends_57 : decode c_Mo_ends 57 = .ok (.getfield 35, 3) := by decide +kernel
theorem d_Mo_ends_60 : decode c_Mo_ends 60 = .ok (.aload_n 0, 1) := by decide +kernel
theorem d_Mo_ends_61 : decode c_Mo_ends 61 = .ok (.getfield 35, 3) := by decide +kernel
theorem d_Mo_ends_64 : decode c_Mo_ends 64 = .ok (.invokestatic 184, 3) := by decide +kernel
theorem d_Mo_ends_67 : decode c_Mo_ends 67 = .ok (.laload, 1) := by decide +kernel
theorem d_Mo_ends_68 : decode c_Mo_ends 68 = .ok (.aload_n 0, 1) := by decide +kernel
theorem d_Mo_ends_69 : decode c_Mo_ends 69 = .ok (.getfield 38, 3) := by decide +kernel
theorem d_Mo_ends_72 : decode c_Mo_ends 72 = .ok (.aload_n 0, 1) := by decide +kernel
theorem d_Mo_ends_73 : decode c_Mo_ends 73 = .ok (.getfield 38, 3) := by decide +kernel
theorem d_Mo_ends_76 : decode c_Mo_ends 76 = .ok (.invokestatic 184, 3) := by decide +kernel
theorem d_Mo_ends_79 : decode c_Mo_ends 79 = .ok (.laload, 1) := by decide +kernel
theorem d_Mo_ends_80 : decode c_Mo_ends 80 = .ok (.invokevirtual 258, 3) := by decide +kernel
theorem d_Mo_ends_83 : decode c_Mo_ends 83 = .ok (.istore_n 2, 1) := by decide +kernel
theorem d_Mo_ends_84 : decode c_Mo_ends 84 = .ok (.iload_n 2, 1) := by decide +kernel
theorem d_Mo_ends_85 : decode c_Mo_ends 85 = .ok (.ifCond .eq 5, 3) := by decide +kernel
theorem d_Mo_ends_88 : decode c_Mo_ends 88 = .ok (.iload_n 2, 1) := by decide +kernel
theorem d_Mo_ends_89 : decode c_Mo_ends 89 = .ok (.ireturn, 1) := by decide +kernel
theorem d_Mo_ends_90 : decode c_Mo_ends 90 = .ok (.aload_n 0, 1) := by decide +kernel
theorem d_Mo_ends_91 : decode c_Mo_ends 91 = .ok (.getfield 38, 3) := by decide +kernel
theorem d_Mo_ends_94 : decode c_Mo_ends 94 = .ok (.iconst 0, 1) := by decide +kernel
theorem d_Mo_ends_95 : decode c_Mo_ends 95 = .ok (.laload, 1) := by decide +kernel
theorem d_Mo_ends_96 : decode c_Mo_ends 96 = .ok (.lconst 0, 1) := by decide +kernel
theorem d_Mo_ends_97 : decode c_Mo_ends 97 = .ok (.lcmp, 1) := by decide +kernel
theorem d_Mo_ends_98 : decode c_Mo_ends 98 = .ok (.ifCond .ne 6, 3) := by decide +kernel
theorem d_Mo_ends_101 : decode c_Mo_ends 101 = .ok (.bipush (-101), 2) := by decide +kernel
theorem d_Mo_ends_103 : decode c_Mo_ends 103 = .ok (.ireturn, 1) := by decide +kernel
theorem d_Mo_ends_104 : decode c_Mo_ends 104 = .ok (.aload_n 0, 1) := by decide +kernel
theorem d_Mo_ends_105 : decode c_Mo_ends 105 = .ok (.getfield 35, 3) := by decide +kernel
theorem d_Mo_ends_108 : decode c_Mo_ends 108 = .ok (.iconst 0, 1) := by decide +kernel
theorem d_Mo_ends_109 : decode c_Mo_ends 109 = .ok (.laload, 1) := by decide +kernel
theorem d_Mo_ends_110 : decode c_Mo_ends 110 = .ok (.lconst 0, 1) := by decide +kernel
theorem d_Mo_ends_111 : decode c_Mo_ends 111 = .ok (.lcmp, 1) := by decide +kernel
theorem d_Mo_ends_112 : decode c_Mo_ends 112 = .ok (.ifCond .ne 7, 3) := by decide +kernel
theorem d_Mo_ends_115 : decode c_Mo_ends 115 = .ok (.iconst 0, 1) := by decide +kernel
theorem d_Mo_ends_116 : decode c_Mo_ends 116 = .ok (.goto 31, 3) := by decide +kernel
theorem d_Mo_ends_119 : decode c_Mo_ends 119 = .ok (.aload_n 0, 1) := by decide +kernel
theorem d_Mo_ends_120 : decode c_Mo_ends 120 = .ok (.iload_n 1, 1) := by decide +kernel
theorem d_Mo_ends_121 : decode c_Mo_ends 121 = .ok (.iload_n 1, 1) := by decide +kernel
theorem d_Mo_ends_122 : decode c_Mo_ends 122 = .ok (.iconst 2, 1) := by decide +kernel
theorem d_Mo_ends_123 : decode c_Mo_ends 123 = .ok (.if_icmp .ne 7, 3) := by decide +kernel
theorem d_Mo_ends_126 : decode c_Mo_ends 126 = .ok (.iconst 3, 1) := by decide +kernel
theorem d_Mo_ends_127 : decode c_Mo_ends 127 = .ok (.goto 4, 3) := by decide +kernel
theorem d_Mo_ends_130 : decode c_Mo_ends 130 = .ok (.iconst 1, 1) := by decide +kernel
theorem d_Mo_ends_131 : decode c_Mo_ends 131 = .ok (.iconst 1, 1) := by decide +kernel
theorem d_Mo_ends_132 : decode c_Mo_ends 132 = .ok (.aload_n 0, 1) := by decide +kernel
theorem d_Mo_ends_133 : decode c_Mo_ends 133 = .ok (.getfield 35, 3) := by decide +kernel
theorem d_Mo_ends_136 : decode c_Mo_ends 136 = .ok (.iconst 0, 1) := by decide +kernel
theorem d_Mo_ends_137 : decode c_Mo_ends 137 = .ok (.laload, 1) := by decide +kernel
theorem d_Mo_ends_138 : decode c_Mo_ends 138 = .ok (.aload_n 0, 1) := by decide +kernel
theorem d_Mo_ends_139 : decode c_Mo_ends 139 = .ok (.getfield 38, 3) := by decide +kernel
theorem d_Mo_ends_142 : decode c_Mo_ends 142 = .ok (.iconst 0, 1) := by decide +kernel
theorem d_Mo_ends_143 : decode c_Mo_ends 143 = .ok (.laload, 1) := by decide +kernel
theorem d_Mo_ends_144 : decode c_Mo_ends 144 = .ok (.invokevirtual 258, 3) := by decide +kernel
theorem d_Mo_ends_147 : decode c_Mo_ends 147 = .ok (.ireturn, 1) := by decide +kernel
set_option maxRecDepth 20000 in
theorem w_Mo_ends_131 {X : HX} {ad : Nat → Nat} {I : HI} {J : HJ} {N : HN} {r : HI × HJ × Int32} {a0 : Nat} {p1 : Int32} {bs0 : Nat} {s1 : Int32} {s2 : Int32} (C : Cx X c_Mo_ends RX11 3 (some .int) rm_Mo_ends) (ha0 : gk Tm nM a0 (0, 11)) (hbs0 : gk Tm nM bs0 (0, 11))
    (h : Mo_ends_131 N a0 p1 I J bs0 s1 s2 = some r) : G Tm X ad nM 0 0 I J N (gE X Tm ad nM (r.1, r.2.1, N, fun _ => some (.int r.2.2))) 131 3 [(0, .ref (ad a0))] [.int s2, .int s1, .ref (ad bs0)] := by
  refine g_iconst (pc := 131) C (1 : Int32) d_Mo_ends_131 (by decide) ?_
  refine g_aload_n (pc := 132) C d_Mo_ends_132 rfl 0 rfl ?_
  obtain ⟨b1, hnb1, hb1, h⟩ := o_ra h
  refine g_get (pc := 133) (k := 15) (v := va_rf ((N a0 15).map ad)) C gcX11 inX11 (by decide) fl_Mo_35 ha0 rfl d_Mo_ends_133 ?_
  refine g_top (g_rf hnb1) ?_
  refine g_iconst (pc := 136) C (0 : Int32) d_Mo_ends_136 (by decide) ?_
  obtain ⟨hi2, h⟩ := o_gd h
  refine g_lald (pc := 137) C hb1 hi2 d_Mo_ends_137 ?_
  refine g_aload_n (pc := 138) C d_Mo_ends_138 rfl 0 rfl ?_
  obtain ⟨b3, hnb3, hb3, h⟩ := o_ra h
  refine g_get (pc := 139) (k := 16) (v := va_rf ((N a0 16).map ad)) C gcX11 inX11 (by decide) fl_Mo_38 ha0 rfl d_Mo_ends_139 ?_
  refine g_top (g_rf hnb3) ?_
  refine g_iconst (pc := 142) C (0 : Int32) d_Mo_ends_142 (by decide) ?_
  obtain ⟨hi4, h⟩ := o_gd h
  refine g_lald (pc := 143) C hb3 hi4 d_Mo_ends_143 ?_
  obtain ⟨I5, J6, r7, hc8, h⟩ := o_bn3 h
  refine g_V (pc := 144) (rest := []) C (k_Mo_alone (xl X) hbs0 hc8) sm_Mo_alone ml_Mo_258 im_Mo_alone se_Mo_alone gcX11 rfl hbs0 ⟨rfl, rfl, Nat.le_of_ble_eq_true rfl, Nat.le_of_ble_eq_true rfl⟩ ⟨Nat.zero_le _, Nat.zero_le _⟩ rfl rfl (Nat.le_of_ble_eq_true rfl) d_Mo_ends_144 [.int r7] rfl ?_
  obtain rfl := o_ret h
  exact g_iret (pc := 147) C d_Mo_ends_147
set_option maxRecDepth 20000 in
theorem w_Mo_ends_84 {X : HX} {ad : Nat → Nat} {I : HI} {J : HJ} {N : HN} {r : HI × HJ × Int32} {a0 : Nat} {p1 : Int32} {x2 : Int32} (C : Cx X c_Mo_ends RX11 3 (some .int) rm_Mo_ends) (ha0 : gk Tm nM a0 (0, 11))
    (h : Mo_ends_84 N a0 p1 I J x2 = some r) : G Tm X ad nM 0 0 I J N (gE X Tm ad nM (r.1, r.2.1, N, fun _ => some (.int r.2.2))) 84 3 [(0, .ref (ad a0)), (1, .int p1), (2, .int x2)] [] := by
  refine g_iload_n (pc := 84) C d_Mo_ends_84 rfl 2 rfl ?_
  refine g_if_eq (pc := 85) C 90 d_Mo_ends_85 rfl (fun e1 => ?_) (fun e1 => ?_)
  · have h := o_pos e1 h
    refine g_aload_n (pc := 90) C d_Mo_ends_90 rfl 0 rfl ?_
    obtain ⟨b2, hnb2, hb2, h⟩ := o_ra h
    refine g_get (pc := 91) (k := 16) (v := va_rf ((N a0 16).map ad)) C gcX11 inX11 (by decide) fl_Mo_38 ha0 rfl d_Mo_ends_91 ?_
    refine g_top (g_rf hnb2) ?_
    refine g_iconst (pc := 94) C (0 : Int32) d_Mo_ends_94 (by decide) ?_
    obtain ⟨hi3, h⟩ := o_gd h
    refine g_lald (pc := 95) C hb2 hi3 d_Mo_ends_95 ?_
    refine g_lconst (pc := 96) C (0 : Int64) d_Mo_ends_96 (by decide) ?_
    refine g_lcmp_ne (pc := 97) C 104 d_Mo_ends_97 d_Mo_ends_98 rfl (fun e4 => ?_) (fun e4 => ?_)
    · have h := o_neg e4 h
      refine g_aload_n (pc := 104) C d_Mo_ends_104 rfl 0 rfl ?_
      obtain ⟨b5, hnb5, hb5, h⟩ := o_ra h
      refine g_get (pc := 105) (k := 15) (v := va_rf ((N a0 15).map ad)) C gcX11 inX11 (by decide) fl_Mo_35 ha0 rfl d_Mo_ends_105 ?_
      refine g_top (g_rf hnb5) ?_
      refine g_iconst (pc := 108) C (0 : Int32) d_Mo_ends_108 (by decide) ?_
      obtain ⟨hi6, h⟩ := o_gd h
      refine g_lald (pc := 109) C hb5 hi6 d_Mo_ends_109 ?_
      refine g_lconst (pc := 110) C (0 : Int64) d_Mo_ends_110 (by decide) ?_
      refine g_lcmp_ne (pc := 111) C 119 d_Mo_ends_111 d_Mo_ends_112 rfl (fun e7 => ?_) (fun e7 => ?_)
      · have h := o_neg e7 h
        refine g_aload_n (pc := 119) C d_Mo_ends_119 rfl 0 rfl ?_
        refine g_iload_n (pc := 120) C d_Mo_ends_120 rfl 1 rfl ?_
        refine g_iload_n (pc := 121) C d_Mo_ends_121 rfl 1 rfl ?_
        refine g_iconst (pc := 122) C (2 : Int32) d_Mo_ends_122 (by decide) ?_
        refine g_icmp_ne (pc := 123) C 130 d_Mo_ends_123 rfl (fun e8 => ?_) (fun e8 => ?_)
        · have h := o_neg e8 h
          refine g_iconst (pc := 130) C (1 : Int32) d_Mo_ends_130 (by decide) ?_
          refine g_lv [0] rfl ?_
          exact w_Mo_ends_131 C ha0 ha0 h
        · have h := o_pos e8 h
          refine g_iconst (pc := 126) C (3 : Int32) d_Mo_ends_126 (by decide) ?_
          refine g_goto (pc := 127) C 131 d_Mo_ends_127 rfl ?_
          refine g_lv [0] rfl ?_
          exact w_Mo_ends_131 C ha0 ha0 h
      · have h := o_pos e7 h
        refine g_iconst (pc := 115) C (0 : Int32) d_Mo_ends_115 (by decide) ?_
        refine g_goto (pc := 116) C 147 d_Mo_ends_116 rfl ?_
        obtain rfl := o_ret h
        exact g_iret (pc := 147) C d_Mo_ends_147
    · have h := o_pos e4 h
      refine g_bipush (pc := 101) C (-101 : Int32) d_Mo_ends_101 (by decide) ?_
      obtain rfl := o_ret h
      exact g_iret (pc := 103) C d_Mo_ends_103
  · have h := o_neg e1 h
    refine g_iload_n (pc := 88) C d_Mo_ends_88 rfl 2 rfl ?_
    obtain rfl := o_ret h
    exact g_iret (pc := 89) C d_Mo_ends_89
set_option maxRecDepth 20000 in
theorem w_Mo_ends_83 {X : HX} {ad : Nat → Nat} {I : HI} {J : HJ} {N : HN} {r : HI × HJ × Int32} {a0 : Nat} {p1 : Int32} {s0 : Int32} (C : Cx X c_Mo_ends RX11 3 (some .int) rm_Mo_ends) (ha0 : gk Tm nM a0 (0, 11))
    (h : Mo_ends_83 N a0 p1 I J s0 = some r) : G Tm X ad nM 0 0 I J N (gE X Tm ad nM (r.1, r.2.1, N, fun _ => some (.int r.2.2))) 83 3 [(0, .ref (ad a0)), (1, .int p1)] [.int s0] := by
  refine g_istore_n (pc := 83) (lv' := [(2, .int s0), (0, .ref (ad a0)), (1, .int p1)]) C d_Mo_ends_83 rfl (by decide) rfl ?_
  refine g_lv [1, 2, 0] rfl ?_
  exact w_Mo_ends_84 C ha0 h
set_option maxRecDepth 20000 in
theorem w_Mo_ends_55 {X : HX} {ad : Nat → Nat} {I : HI} {J : HJ} {N : HN} {r : HI × HJ × Int32} {a0 : Nat} {p1 : Int32} {bs0 : Nat} {s1 : Int32} {s2 : Int32} (C : Cx X c_Mo_ends RX11 3 (some .int) rm_Mo_ends) (ha0 : gk Tm nM a0 (0, 11)) (hbs0 : gk Tm nM bs0 (0, 11))
    (h : Mo_ends_55 N a0 p1 I J bs0 s1 s2 = some r) : G Tm X ad nM 0 0 I J N (gE X Tm ad nM (r.1, r.2.1, N, fun _ => some (.int r.2.2))) 55 3 [(0, .ref (ad a0)), (1, .int p1)] [.int s2, .int s1, .ref (ad bs0)] := by
  refine g_iconst (pc := 55) C (0 : Int32) d_Mo_ends_55 (by decide) ?_
  refine g_aload_n (pc := 56) C d_Mo_ends_56 rfl 0 rfl ?_
  obtain ⟨b1, hnb1, hb1, h⟩ := o_ra h
  refine g_get (pc := 57) (k := 15) (v := va_rf ((N a0 15).map ad)) C gcX11 inX11 (by decide) fl_Mo_35 ha0 rfl d_Mo_ends_57 ?_
  refine g_top (g_rf hnb1) ?_
  refine g_aload_n (pc := 60) C d_Mo_ends_60 rfl 0 rfl ?_
  obtain ⟨b2, hnb2, hb2, h⟩ := o_ra h
  refine g_get (pc := 61) (k := 15) (v := va_rf ((N a0 15).map ad)) C gcX11 inX11 (by decide) fl_Mo_35 ha0 rfl d_Mo_ends_61 ?_
  refine g_top (g_rf hnb2) ?_
  obtain ⟨r3, hc4, h⟩ := o_bn1 h
  refine g_S (pc := 64) (rest := [.ref (ad b1), .int (0 : Int32), .int s2, .int s1, .ref (ad bs0)]) C (k_Mo_top (xl X) hb2 hc4) sm_Mo_top ml_Mo_184 st_Mo_top ⟨rfl, rfl, Nat.le_of_ble_eq_true rfl, Nat.le_of_ble_eq_true rfl⟩ ⟨Nat.zero_le _, Nat.zero_le _⟩ rfl rfl (Nat.le_of_ble_eq_true rfl) d_Mo_ends_64 [.int r3, .ref (ad b1), .int (0 : Int32), .int s2, .int s1, .ref (ad bs0)] rfl ?_
  obtain ⟨hi5, h⟩ := o_gd h
  refine g_lald (pc := 67) C hb1 hi5 d_Mo_ends_67 ?_
  refine g_aload_n (pc := 68) C d_Mo_ends_68 rfl 0 rfl ?_
  obtain ⟨b6, hnb6, hb6, h⟩ := o_ra h
  refine g_get (pc := 69) (k := 16) (v := va_rf ((N a0 16).map ad)) C gcX11 inX11 (by decide) fl_Mo_38 ha0 rfl d_Mo_ends_69 ?_
  refine g_top (g_rf hnb6) ?_
  refine g_aload_n (pc := 72) C d_Mo_ends_72 rfl 0 rfl ?_
  obtain ⟨b7, hnb7, hb7, h⟩ := o_ra h
  refine g_get (pc := 73) (k := 16) (v := va_rf ((N a0 16).map ad)) C gcX11 inX11 (by decide) fl_Mo_38 ha0 rfl d_Mo_ends_73 ?_
  refine g_top (g_rf hnb7) ?_
  obtain ⟨r8, hc9, h⟩ := o_bn1 h
  refine g_S (pc := 76) (rest := [.ref (ad b6), .long (J b1 r3.toNatClampNeg), .int (0 : Int32), .int s2, .int s1, .ref (ad bs0)]) C (k_Mo_top (xl X) hb7 hc9) sm_Mo_top ml_Mo_184 st_Mo_top ⟨rfl, rfl, Nat.le_of_ble_eq_true rfl, Nat.le_of_ble_eq_true rfl⟩ ⟨Nat.zero_le _, Nat.zero_le _⟩ rfl rfl (Nat.le_of_ble_eq_true rfl) d_Mo_ends_76 [.int r8, .ref (ad b6), .long (J b1 r3.toNatClampNeg), .int (0 : Int32), .int s2, .int s1, .ref (ad bs0)] rfl ?_
  obtain ⟨hi10, h⟩ := o_gd h
  refine g_lald (pc := 79) C hb6 hi10 d_Mo_ends_79 ?_
  obtain ⟨I11, J12, r13, hc14, h⟩ := o_bn3 h
  refine g_V (pc := 80) (rest := []) C (k_Mo_alone (xl X) hbs0 hc14) sm_Mo_alone ml_Mo_258 im_Mo_alone se_Mo_alone gcX11 rfl hbs0 ⟨rfl, rfl, Nat.le_of_ble_eq_true rfl, Nat.le_of_ble_eq_true rfl⟩ ⟨Nat.zero_le _, Nat.zero_le _⟩ rfl rfl (Nat.le_of_ble_eq_true rfl) d_Mo_ends_80 [.int r13] rfl ?_
  refine g_lv [0, 1] rfl ?_
  exact w_Mo_ends_83 C ha0 h
set_option maxRecDepth 20000 in
theorem w_Mo_ends_0 {X : HX} {ad : Nat → Nat} {I : HI} {J : HJ} {N : HN} {r : HI × HJ × Int32} {a0 : Nat} {p1 : Int32} (C : Cx X c_Mo_ends RX11 3 (some .int) rm_Mo_ends) (ha0 : gk Tm nM a0 (0, 11))
    (h : Mo_ends_0 N a0 p1 I J = some r) : G Tm X ad nM 0 0 I J N (gE X Tm ad nM (r.1, r.2.1, N, fun _ => some (.int r.2.2))) 0 3 [(0, .ref (ad a0)), (1, .int p1)] [] := by
  refine g_iconst (pc := 0) C (0 : Int32) d_Mo_ends_0 (by decide) ?_
  refine g_istore_n (pc := 1) (lv' := [(2, .int (0 : Int32)), (0, .ref (ad a0)), (1, .int p1)]) C d_Mo_ends_1 rfl (by decide) rfl ?_
  refine g_aload_n (pc := 2) C d_Mo_ends_2 rfl 1 rfl ?_
  obtain ⟨b1, hnb1, hb1, h⟩ := o_ra h
  refine g_get (pc := 3) (k := 15) (v := va_rf ((N a0 15).map ad)) C gcX11 inX11 (by decide) fl_Mo_35 ha0 rfl d_Mo_ends_3 ?_
  refine g_top (g_rf hnb1) ?_
  obtain ⟨r2, hc3, h⟩ := o_bn1 h
  refine g_S (pc := 6) (rest := []) C (k_Mo_top (xl X) hb1 hc3) sm_Mo_top ml_Mo_184 st_Mo_top ⟨rfl, rfl, Nat.le_of_ble_eq_true rfl, Nat.le_of_ble_eq_true rfl⟩ ⟨Nat.zero_le _, Nat.zero_le _⟩ rfl rfl (Nat.le_of_ble_eq_true rfl) d_Mo_ends_6 [.int r2] rfl ?_
  refine g_aload_n (pc := 9) C d_Mo_ends_9 rfl 1 rfl ?_
  obtain ⟨b4, hnb4, hb4, h⟩ := o_ra h
  refine g_get (pc := 10) (k := 16) (v := va_rf ((N a0 16).map ad)) C gcX11 inX11 (by decide) fl_Mo_38 ha0 rfl d_Mo_ends_10 ?_
  refine g_top (g_rf hnb4) ?_
  obtain ⟨r5, hc6, h⟩ := o_bn1 h
  refine g_S (pc := 13) (rest := [.int r2]) C (k_Mo_top (xl X) hb4 hc6) sm_Mo_top ml_Mo_184 st_Mo_top ⟨rfl, rfl, Nat.le_of_ble_eq_true rfl, Nat.le_of_ble_eq_true rfl⟩ ⟨Nat.zero_le _, Nat.zero_le _⟩ rfl rfl (Nat.le_of_ble_eq_true rfl) d_Mo_ends_13 [.int r5, .int r2] rfl ?_
  refine g_icmp_le (pc := 16) C 84 d_Mo_ends_16 rfl (fun e7 => ?_) (fun e7 => ?_)
  · have h := o_pos e7 h
    refine g_lv [1, 2, 0] rfl ?_
    exact w_Mo_ends_84 C ha0 h
  · have h := o_neg e7 h
    refine g_aload_n (pc := 19) C d_Mo_ends_19 rfl 1 rfl ?_
    obtain ⟨b8, hnb8, hb8, h⟩ := o_ra h
    refine g_get (pc := 20) (k := 15) (v := va_rf ((N a0 15).map ad)) C gcX11 inX11 (by decide) fl_Mo_35 ha0 rfl d_Mo_ends_20 ?_
    refine g_top (g_rf hnb8) ?_
    obtain ⟨r9, hc10, h⟩ := o_bn1 h
    refine g_S (pc := 23) (rest := []) C (k_Mo_top (xl X) hb8 hc10) sm_Mo_top ml_Mo_184 st_Mo_top ⟨rfl, rfl, Nat.le_of_ble_eq_true rfl, Nat.le_of_ble_eq_true rfl⟩ ⟨Nat.zero_le _, Nat.zero_le _⟩ rfl rfl (Nat.le_of_ble_eq_true rfl) d_Mo_ends_23 [.int r9] rfl ?_
    refine g_aload_n (pc := 26) C d_Mo_ends_26 rfl 1 rfl ?_
    obtain ⟨b11, hnb11, hb11, h⟩ := o_ra h
    refine g_get (pc := 27) (k := 16) (v := va_rf ((N a0 16).map ad)) C gcX11 inX11 (by decide) fl_Mo_38 ha0 rfl d_Mo_ends_27 ?_
    refine g_top (g_rf hnb11) ?_
    obtain ⟨r12, hc13, h⟩ := o_bn1 h
    refine g_S (pc := 30) (rest := [.int r9]) C (k_Mo_top (xl X) hb11 hc13) sm_Mo_top ml_Mo_184 st_Mo_top ⟨rfl, rfl, Nat.le_of_ble_eq_true rfl, Nat.le_of_ble_eq_true rfl⟩ ⟨Nat.zero_le _, Nat.zero_le _⟩ rfl rfl (Nat.le_of_ble_eq_true rfl) d_Mo_ends_30 [.int r12, .int r9] rfl ?_
    refine g_iconst (pc := 33) C (1 : Int32) d_Mo_ends_33 (by decide) ?_
    refine g_iadd (pc := 34) C d_Mo_ends_34 ?_
    refine g_icmp_le (pc := 35) C 43 d_Mo_ends_35 rfl (fun e14 => ?_) (fun e14 => ?_)
    · have h := o_pos e14 h
      refine g_aload_n (pc := 43) C d_Mo_ends_43 rfl 1 rfl ?_
      refine g_iload_n (pc := 44) C d_Mo_ends_44 rfl 2 rfl ?_
      refine g_iload_n (pc := 45) C d_Mo_ends_45 rfl 2 rfl ?_
      refine g_iconst (pc := 46) C (2 : Int32) d_Mo_ends_46 (by decide) ?_
      refine g_icmp_ne (pc := 47) C 54 d_Mo_ends_47 rfl (fun e15 => ?_) (fun e15 => ?_)
      · have h := o_neg e15 h
        refine g_iconst (pc := 54) C (3 : Int32) d_Mo_ends_54 (by decide) ?_
        refine g_lv [1, 2] rfl ?_
        exact w_Mo_ends_55 C ha0 ha0 h
      · have h := o_pos e15 h
        refine g_iconst (pc := 50) C (1 : Int32) d_Mo_ends_50 (by decide) ?_
        refine g_goto (pc := 51) C 55 d_Mo_ends_51 rfl ?_
        refine g_lv [1, 2] rfl ?_
        exact w_Mo_ends_55 C ha0 ha0 h
    · have h := o_neg e14 h
      refine g_bipush (pc := 38) C (-100 : Int32) d_Mo_ends_38 (by decide) ?_
      refine g_goto (pc := 40) C 83 d_Mo_ends_40 rfl ?_
      refine g_lv [1, 2] rfl ?_
      exact w_Mo_ends_83 C ha0 h
set_option maxRecDepth 20000 in
theorem k_Mo_ends (l : Launch) {I : HI} {J : HJ} {N : HN} {a0 : Nat} {p1 : Int32} {r : HI × HJ × Int32} (ha0 : gk Tm nM a0 (0, 11)) (h : Mo_ends N a0 p1 I J = some r) : gM l y_Mo_ends c_Mo_ends 3 (some .int) rm_Mo_ends Tm nM I J N (fun ad => [.ref (ad a0), .int p1]) (r.1, r.2.1, N, fun _ => some (.int r.2.2)) :=
  g_meth (lv := fun ad => [(0, .ref (ad a0)), (1, .int p1)]) (by decide) (fun _ => Nat.le_of_ble_eq_true rfl) (fun _ => rfl) (fun X ad C => g_lv [0, 1] rfl (w_Mo_ends_0 C ha0 h))
theorem d_Mo_rootOnce_0 : decode c_Mo_rootOnce 0 = .ok (.lconst 0, 1) := by decide +kernel
theorem d_Mo_rootOnce_1 : decode c_Mo_rootOnce 1 = .ok (.lload_n 3, 1) := by decide +kernel
theorem d_Mo_rootOnce_2 : decode c_Mo_rootOnce 2 = .ok (.lsub, 1) := by decide +kernel
theorem d_Mo_rootOnce_3 : decode c_Mo_rootOnce 3 = .ok (.lstore 7, 2) := by decide +kernel
theorem d_Mo_rootOnce_5 : decode c_Mo_rootOnce 5 = .ok (.aload_n 0, 1) := by decide +kernel
theorem d_Mo_rootOnce_6 : decode c_Mo_rootOnce 6 = .ok (.getfield 53, 3) := by decide +kernel
theorem d_Mo_rootOnce_9 : decode c_Mo_rootOnce 9 = .ok (.lload 7, 2) := by decide +kernel
theorem d_Mo_rootOnce_11 : decode c_Mo_rootOnce 11 = .ok (.lload 5, 2) := by decide +kernel
theorem d_Mo_rootOnce_13 : decode c_Mo_rootOnce 13 = .ok (.invokestatic 217, 3) := by decide +kernel
theorem d_Mo_rootOnce_16 : decode c_Mo_rootOnce 16 = .ok (.lstore 9, 2) := by decide +kernel
theorem d_Mo_rootOnce_18 : decode c_Mo_rootOnce 18 = .ok (.lload_n 3, 1) := by decide +kernel
theorem d_Mo_rootOnce_19 : decode c_Mo_rootOnce 19 = .ok (.lconst 0, 1) := by decide +kernel
theorem d_Mo_rootOnce_20 : decode c_Mo_rootOnce 20 = .ok (.lcmp, 1) := by decide +kernel
theorem d_Mo_rootOnce_21 : decode c_Mo_rootOnce 21 = .ok (.ifCond .le 10, 3) := by decide +kernel
theorem d_Mo_rootOnce_24 : decode c_Mo_rootOnce 24 = .ok (.lload 9, 2) := by decide +kernel
theorem d_Mo_rootOnce_26 : decode c_Mo_rootOnce 26 = .ok (.lconst 0, 1) := by decide +kernel
theorem d_Mo_rootOnce_27 : decode c_Mo_rootOnce 27 = .ok (.lcmp, 1) := by decide +kernel
theorem d_Mo_rootOnce_28 : decode c_Mo_rootOnce 28 = .ok (.ifCond .ne 8, 3) := by decide +kernel
theorem d_Mo_rootOnce_31 : decode c_Mo_rootOnce 31 = .ok (.bipush (-100), 2) := by decide +kernel
theorem d_Mo_rootOnce_33 : decode c_Mo_rootOnce 33 = .ok (.iload_n 2, 1) := by decide +kernel
theorem d_Mo_rootOnce_34 : decode c_Mo_rootOnce 34 = .ok (.isub, 1) := by decide +kernel
theorem d_Mo_rootOnce_35 : decode c_Mo_rootOnce 35 = .ok (.ireturn, 1) := by decide +kernel
theorem d_Mo_rootOnce_36 : decode c_Mo_rootOnce 36 = .ok (.aload_n 0, 1) := by decide +kernel
theorem d_Mo_rootOnce_37 : decode c_Mo_rootOnce 37 = .ok (.getfield 35, 3) := by decide +kernel
theorem d_Mo_rootOnce_40 : decode c_Mo_rootOnce 40 = .ok (.lload 7, 2) := by decide +kernel
theorem d_Mo_rootOnce_42 : decode c_Mo_rootOnce 42 = .ok (.lload 5, 2) := by decide +kernel
theorem d_Mo_rootOnce_44 : decode c_Mo_rootOnce 44 = .ok (.invokestatic 217, 3) := by decide +kernel
theorem d_Mo_rootOnce_47 : decode c_Mo_rootOnce 47 = .ok (.lstore 11, 2) := by decide +kernel
theorem d_Mo_rootOnce_49 : decode c_Mo_rootOnce 49 = .ok (.lload 11, 2) := by decide +kernel
theorem d_Mo_rootOnce_51 : decode c_Mo_rootOnce 51 = .ok (.lconst 0, 1) := by decide +kernel
theorem d_Mo_rootOnce_52 : decode c_Mo_rootOnce 52 = .ok (.lcmp, 1) := by decide +kernel
theorem d_Mo_rootOnce_53 : decode c_Mo_rootOnce 53 = .ok (.ifCond .ne 5, 3) := by decide +kernel
theorem d_Mo_rootOnce_56 : decode c_Mo_rootOnce 56 = .ok (.iconst 0, 1) := by decide +kernel
theorem d_Mo_rootOnce_57 : decode c_Mo_rootOnce 57 = .ok (.ireturn, 1) := by decide +kernel
theorem d_Mo_rootOnce_58 : decode c_Mo_rootOnce 58 = .ok (.aload_n 0, 1) := by decide +kernel
theorem d_Mo_rootOnce_59 : decode c_Mo_rootOnce 59 = .ok (.getfield 53, 3) := by decide +kernel
theorem d_Mo_rootOnce_62 : decode c_Mo_rootOnce 62 = .ok (.invokestatic 184, 3) := by decide +kernel
theorem d_Mo_rootOnce_65 : decode c_Mo_rootOnce 65 = .ok (.iconst 1, 1) := by decide +kernel
theorem d_Mo_rootOnce_66 : decode c_Mo_rootOnce 66 = .ok (.iadd, 1) := by decide +kernel
theorem d_Mo_rootOnce_67 : decode c_Mo_rootOnce 67 = .ok (.aload_n 0, 1) := by decide +kernel
theorem d_Mo_rootOnce_68 : decode c_Mo_rootOnce 68 = .ok (.getfield 35, 3) := by decide +kernel
theorem d_Mo_rootOnce_71 : decode c_Mo_rootOnce 71 = .ok (.invokestatic 184, 3) := by decide +kernel
theorem d_Mo_rootOnce_74 : decode c_Mo_rootOnce 74 = .ok (.isub, 1) := by decide +kernel
theorem d_Mo_rootOnce_75 : decode c_Mo_rootOnce 75 = .ok (.istore 13, 2) := by decide +kernel
theorem d_Mo_rootOnce_77 : decode c_Mo_rootOnce 77 = .ok (.lload 11, 2) := by decide +kernel
theorem d_Mo_rootOnce_79 : decode c_Mo_rootOnce 79 = .ok (.iload 13, 2) := by decide +kernel
theorem d_Mo_rootOnce_81 : decode c_Mo_rootOnce 81 = .ok (.ifCond .le 13, 3) := by decide +kernel
theorem d_Mo_rootOnce_84 : decode c_Mo_rootOnce 84 = .ok (.lload 5, 2) := by decide +kernel
theorem d_Mo_rootOnce_86 : decode c_Mo_rootOnce 86 = .ok (.iload 13, 2) := by decide +kernel
theorem d_Mo_rootOnce_88 : decode c_Mo_rootOnce 88 = .ok (.invokestatic 144, 3) := by decide +kernel
theorem d_Mo_rootOnce_91 : decode c_Mo_rootOnce 91 = .ok (.goto 4, 3) := by decide +kernel
theorem d_Mo_rootOnce_94 : decode c_Mo_rootOnce 94 = .ok (.lconst 1, 1) := by decide +kernel
theorem d_Mo_rootOnce_95 : decode c_Mo_rootOnce 95 = .ok (.lmul, 1) := by decide +kernel
theorem d_Mo_rootOnce_96 : decode c_Mo_rootOnce 96 = .ok (.lstore 14, 2) := by decide +kernel
theorem d_Mo_rootOnce_98 : decode c_Mo_rootOnce 98 = .ok (.lload 7, 2) := by decide +kernel
theorem d_Mo_rootOnce_100 : decode c_Mo_rootOnce 100 = .ok (.lload 9, 2) := by decide +kernel
theorem d_Mo_rootOnce_102 : decode c_Mo_rootOnce 102 = .ok (.lmul, 1) := by decide +kernel
theorem d_Mo_rootOnce_103 : decode c_Mo_rootOnce 103 = .ok (.iload 13, 2) := by decide +kernel
theorem d_Mo_rootOnce_105 : decode c_Mo_rootOnce 105 = .ok (.ifCond .ge 15, 3) := by decide +kernel
theorem d_Mo_rootOnce_108 : decode c_Mo_rootOnce 108 = .ok (.lload 5, 2) := by decide +kernel
theorem d_Mo_rootOnce_110 : decode c_Mo_rootOnce 110 = .ok (.iconst 0, 1) := by decide +kernel
theorem d_Mo_rootOnce_111 : decode c_Mo_rootOnce 111 = .ok (.iload 13, 2) := by decide +kernel
theorem d_Mo_rootOnce_113 : decode c_Mo_rootOnce 113 = .ok (.isub, 1) := by decide +kernel
theorem d_Mo_rootOnce_114 : decode c_Mo_rootOnce 114 = .ok (.invokestatic 144, 3) := by decide +kernel
theorem d_Mo_rootOnce_117 : decode c_Mo_rootOnce 117 = .ok (.goto 4, 3) := by decide +kernel
theorem d_Mo_rootOnce_120 : decode c_Mo_rootOnce 120 = .ok (.lconst 1, 1) := by decide +kernel
theorem d_Mo_rootOnce_121 : decode c_Mo_rootOnce 121 = .ok (.lmul, 1) := by decide +kernel
theorem d_Mo_rootOnce_122 : decode c_Mo_rootOnce 122 = .ok (.lstore 16, 2) := by decide +kernel
theorem d_Mo_rootOnce_124 : decode c_Mo_rootOnce 124 = .ok (.lload 14, 2) := by decide +kernel
theorem d_Mo_rootOnce_126 : decode c_Mo_rootOnce 126 = .ok (.lconst 0, 1) := by decide +kernel
theorem d_Mo_rootOnce_127 : decode c_Mo_rootOnce 127 = .ok (.lcmp, 1) := by decide +kernel
theorem d_Mo_rootOnce_128 : decode c_Mo_rootOnce 128 = .ok (.ifCond .ge 7, 3) := by decide +kernel
theorem d_Mo_rootOnce_131 : decode c_Mo_rootOnce 131 = .ok (.iconst 1, 1) := by decide +kernel
theorem d_Mo_rootOnce_132 : decode c_Mo_rootOnce 132 = .ok (.goto 4, 3) := by decide +kernel
theorem d_Mo_rootOnce_135 : decode c_Mo_rootOnce 135 = .ok (.iconst 0, 1) := by decide +kernel
theorem d_Mo_rootOnce_136 : decode c_Mo_rootOnce 136 = .ok (.lload 16, 2) := by decide +kernel
theorem d_Mo_rootOnce_138 : decode c_Mo_rootOnce 138 = .ok (.lconst 0, 1) := by decide +kernel
theorem d_Mo_rootOnce_139 : decode c_Mo_rootOnce 139 = .ok (.lcmp, 1) := by decide +kernel
theorem d_Mo_rootOnce_140 : decode c_Mo_rootOnce 140 = .ok (.ifCond .ge 7, 3) := by decide +kernel
theorem d_Mo_rootOnce_143 : decode c_Mo_rootOnce 143 = .ok (.iconst 1, 1) := by decide +kernel
theorem d_Mo_rootOnce_144 : decode c_Mo_rootOnce 144 = .ok (.goto 4, 3) := by decide +kernel
theorem d_Mo_rootOnce_147 : decode c_Mo_rootOnce 147 = .ok (.iconst 0, 1) := by decide +kernel
theorem d_Mo_rootOnce_148 : decode c_Mo_rootOnce 148 = .ok (.if_icmp .eq 8, 3) := by decide +kernel
theorem d_Mo_rootOnce_151 : decode c_Mo_rootOnce 151 = .ok (.bipush (-100), 2) := by decide +kernel
theorem d_Mo_rootOnce_153 : decode c_Mo_rootOnce 153 = .ok (.iload_n 2, 1) := by decide +kernel
theorem d_Mo_rootOnce_154 : decode c_Mo_rootOnce 154 = .ok (.isub, 1) := by decide +kernel
theorem d_Mo_rootOnce_155 : decode c_Mo_rootOnce 155 = .ok (.ireturn, 1) := by decide +kernel
theorem d_Mo_rootOnce_156 : decode c_Mo_rootOnce 156 = .ok (.aload_n 0, 1) := by decide +kernel
theorem d_Mo_rootOnce_157 : decode c_Mo_rootOnce 157 = .ok (.lload 14, 2) := by decide +kernel
theorem d_Mo_rootOnce_159 : decode c_Mo_rootOnce 159 = .ok (.lload 16, 2) := by decide +kernel
theorem d_Mo_rootOnce_161 : decode c_Mo_rootOnce 161 = .ok (.invokevirtual 203, 3) := by decide +kernel
theorem d_Mo_rootOnce_164 : decode c_Mo_rootOnce 164 = .ok (.aload_n 0, 1) := by decide +kernel
theorem d_Mo_rootOnce_165 : decode c_Mo_rootOnce 165 = .ok (.getfield 166, 3) := by decide +kernel
theorem d_Mo_rootOnce_168 : decode c_Mo_rootOnce 168 = .ok (.lstore 18, 2) := by decide +kernel
theorem d_Mo_rootOnce_170 : decode c_Mo_rootOnce 170 = .ok (.aload_n 0, 1) := by decide +kernel
theorem d_Mo_rootOnce_171 : decode c_Mo_rootOnce 171 = .ok (.getfield 170, 3) := by decide +kernel
theorem d_Mo_rootOnce_174 : decode c_Mo_rootOnce 174 = .ok (.lstore 20, 2) := by decide +kernel
theorem d_Mo_rootOnce_176 : decode c_Mo_rootOnce 176 = .ok (.aload_n 0, 1) := by decide +kernel
theorem d_Mo_rootOnce_177 : decode c_Mo_rootOnce 177 = .ok (.iload_n 1, 1) := by decide +kernel
theorem d_Mo_rootOnce_178 : decode c_Mo_rootOnce 178 = .ok (.iconst 2, 1) := by decide +kernel
theorem d_Mo_rootOnce_179 : decode c_Mo_rootOnce 179 = .ok (.isub, 1) := by decide +kernel
theorem d_Mo_rootOnce_180 : decode c_Mo_rootOnce 180 = .ok (.invokevirtual 210, 3) := by decide +kernel
theorem d_Mo_rootOnce_183 : decode c_Mo_rootOnce 183 = .ok (.aload_n 0, 1) := by decide +kernel
theorem d_Mo_rootOnce_184 : decode c_Mo_rootOnce 184 = .ok (.lload 18, 2) := by decide +kernel
theorem d_Mo_rootOnce_186 : decode c_Mo_rootOnce 186 = .ok (.lload 5, 2) := by decide +kernel
theorem d_Mo_rootOnce_188 : decode c_Mo_rootOnce 188 = .ok (.lmul, 1) := by decide +kernel
theorem d_Mo_rootOnce_189 : decode c_Mo_rootOnce 189 = .ok (.lload 20, 2) := by decide +kernel
theorem d_Mo_rootOnce_191 : decode c_Mo_rootOnce 191 = .ok (.lload_n 3, 1) := by decide +kernel
theorem d_Mo_rootOnce_192 : decode c_Mo_rootOnce 192 = .ok (.lmul, 1) := by decide +kernel
theorem d_Mo_rootOnce_193 : decode c_Mo_rootOnce 193 = .ok (.invokevirtual 203, 3) := by decide +kernel
theorem d_Mo_rootOnce_196 : decode c_Mo_rootOnce 196 = .ok (.aload_n 0, 1) := by decide +kernel
theorem d_Mo_rootOnce_197 : decode c_Mo_rootOnce 197 = .ok (.invokevirtual 207, 3) := by decide +kernel
theorem d_Mo_rootOnce_200 : decode c_Mo_rootOnce 200 = .ok (.istore 22, 2) := by decide +kernel
theorem d_Mo_rootOnce_202 : decode c_Mo_rootOnce 202 = .ok (.aload_n 0, 1) := by decide +kernel
theorem d_Mo_rootOnce_203 : decode c_Mo_rootOnce 203 = .ok (.iload_n 1, 1) := by decide +kernel
theorem d_Mo_rootOnce_204 : decode c_Mo_rootOnce 204 = .ok (.iconst 2, 1) := by decide +kernel
theorem d_Mo_rootOnce_205 : decode c_Mo_rootOnce 205 = .ok (.if_icmp .ne 7, 3) := by decide +kernel
theorem d_Mo_rootOnce_208 : decode c_Mo_rootOnce 208 = .ok (.iconst 1, 1) := by decide +kernel
theorem d_Mo_rootOnce_209 : decode c_Mo_rootOnce 209 = .ok (.goto 4, 3) := by decide +kernel
theorem d_Mo_rootOnce_212 : decode c_Mo_rootOnce 212 = .ok (.iconst 3, 1) := by decide +kernel
theorem d_Mo_rootOnce_213 : decode c_Mo_rootOnce 213 = .ok (.invokevirtual 214, 3) := by decide +kernel
theorem d_Mo_rootOnce_216 : decode c_Mo_rootOnce 216 = .ok (.aload_n 0, 1) := by decide +kernel
theorem d_Mo_rootOnce_217 : decode c_Mo_rootOnce 217 = .ok (.lload 20, 2) := by decide +kernel
theorem d_Mo_rootOnce_219 : decode c_Mo_rootOnce 219 = .ok (.lload 18, 2) := by decide +kernel
theorem d_Mo_rootOnce_221 : decode c_Mo_rootOnce 221 = .ok (.invokevirtual 203, 3) := by decide +kernel
theorem d_Mo_rootOnce_224 : decode c_Mo_rootOnce 224 = .ok (.iload 22, 2) := by decide +kernel
theorem d_Mo_rootOnce_226 : decode c_Mo_rootOnce 226 = .ok (.ifCond .eq 14, 3) := by decide +kernel
theorem d_Mo_rootOnce_229 : decode c_Mo_rootOnce 229 = .ok (.aload_n 0, 1) := by decide +kernel
theorem d_Mo_rootOnce_230 : decode c_Mo_rootOnce 230 = .ok (.invokevirtual 207, 3) := by decide +kernel
theorem d_Mo_rootOnce_233 : decode c_Mo_rootOnce 233 = .ok (.ifCond .eq 7, 3) := by decide +kernel
theorem d_Mo_rootOnce_236 : decode c_Mo_rootOnce 236 = .ok (.iconst 1, 1) := by decide +kernel
theorem d_Mo_rootOnce_237 : decode c_Mo_rootOnce 237 = .ok (.goto 4, 3) := by decide +kernel
theorem d_Mo_rootOnce_240 : decode c_Mo_rootOnce 240 = .ok (.iconst 0, 1) := by decide +kernel
theorem d_Mo_rootOnce_241 : decode c_Mo_rootOnce 241 = .ok (.istore 22, 2) := by decide +kernel
theorem d_Mo_rootOnce_243 : decode c_Mo_rootOnce 243 = .ok (.iload 22, 2) := by decide +kernel
theorem d_Mo_rootOnce_245 : decode c_Mo_rootOnce 245 = .ok (.ifCond .ne 6, 3) := by decide +kernel
theorem d_Mo_rootOnce_248 : decode c_Mo_rootOnce 248 = .ok (.bipush (-5), 2) := by decide +kernel
theorem d_Mo_rootOnce_250 : decode c_Mo_rootOnce 250 = .ok (.ireturn, 1) := by decide +kernel
theorem d_Mo_rootOnce_251 : decode c_Mo_rootOnce 251 = .ok (.aload_n 0, 1) := by decide +kernel
theorem d_Mo_rootOnce_252 : decode c_Mo_rootOnce 252 = .ok (.iload_n 1, 1) := by decide +kernel
theorem d_Mo_rootOnce_253 : decode c_Mo_rootOnce 253 = .ok (.iconst 2, 1) := by decide +kernel
theorem d_Mo_rootOnce_254 : decode c_Mo_rootOnce 254 = .ok (.if_icmp .ne 7, 3) := by decide +kernel
theorem d_Mo_rootOnce_257 : decode c_Mo_rootOnce 257 = .ok (.iconst 3, 1) := by decide +kernel
theorem d_Mo_rootOnce_258 : decode c_Mo_rootOnce 258 = .ok (.goto 4, 3) := by decide +kernel
theorem d_Mo_rootOnce_261 : decode c_Mo_rootOnce 261 = .ok (.iconst 1, 1) := by decide +kernel
theorem d_Mo_rootOnce_262 : decode c_Mo_rootOnce 262 = .ok (.invokevirtual 214, 3) := by decide +kernel
theorem d_Mo_rootOnce_265 : decode c_Mo_rootOnce 265 = .ok (.aload_n 0, 1) := by decide +kernel
theorem d_Mo_rootOnce_266 : decode c_Mo_rootOnce 266 = .ok (.dup, 1) := by decide +kernel
theorem d_Mo_rootOnce_267 : decode c_Mo_rootOnce 267 = .ok (.getfield 175, 3) := by decide +kernel
theorem d_Mo_rootOnce_270 : decode c_Mo_rootOnce 270 = .ok (.iconst 1, 1) := by decide +kernel
theorem d_Mo_rootOnce_271 : decode c_Mo_rootOnce 271 = .ok (.iadd, 1) := by decide +kernel
theorem d_Mo_rootOnce_272 : decode c_Mo_rootOnce 272 = .ok (.putfield 175, 3) := by decide +kernel
theorem d_Mo_rootOnce_275 : decode c_Mo_rootOnce 275 = .ok (.iconst 0, 1) := by decide +kernel
theorem d_Mo_rootOnce_276 : decode c_Mo_rootOnce 276 = .ok (.ireturn, 1) := by decide +kernel
set_option maxRecDepth 20000 in
theorem w_Mo_rootOnce_262 {X : HX} {ad : Nat → Nat} {I : HI} {J : HJ} {N : HN} {r : HI × HJ × Int32} {a0 : Nat} {p1 : Int32} {p2 : Int32} {p3 : Int64} {p5 : Int64} {bs0 : Nat} {s1 : Int32} (C : Cx X c_Mo_rootOnce RX11 23 (some .int) rm_Mo_rootOnce) (ha0 : gk Tm nM a0 (0, 11)) (hbs0 : gk Tm nM bs0 (0, 11))
    (h : Mo_rootOnce_262 N a0 p1 p2 p3 p5 I J bs0 s1 = some r) : G Tm X ad nM 0 0 I J N (gE X Tm ad nM (r.1, r.2.1, N, fun _ => some (.int r.2.2))) 262 23 [(0, .ref (ad a0))] [.int s1, .ref (ad bs0)] := by
  obtain ⟨I1, hc2, h⟩ := o_bn1 h
  refine g_V (pc := 262) (rest := []) C (k_Mo_lays (xl X) hbs0 hc2) sm_Mo_lays ml_Mo_214 im_Mo_lays se_Mo_lays gcX11 rfl hbs0 ⟨rfl, rfl, Nat.le_of_ble_eq_true rfl, Nat.le_of_ble_eq_true rfl⟩ ⟨Nat.zero_le _, Nat.zero_le _⟩ rfl rfl (Nat.le_of_ble_eq_true rfl) d_Mo_rootOnce_262 [] rfl ?_
  refine g_aload_n (pc := 265) C d_Mo_rootOnce_265 rfl 0 rfl ?_
  refine g_dup (pc := 266) C d_Mo_rootOnce_266 rfl ?_
  refine g_get (pc := 267) (k := 8) (v := .int (I1 a0 8)) C gcX11 inX11 (by decide) fl_Mo_175 ha0 rfl d_Mo_rootOnce_267 ?_
  refine g_iconst (pc := 270) C (1 : Int32) d_Mo_rootOnce_270 (by decide) ?_
  refine g_iadd (pc := 271) C d_Mo_rootOnce_271 ?_
  refine g_put (pc := 272) (I' := up2 I1 a0 8 ((I1 a0 8) + (1 : Int32))) (J' := J) (N' := N) (k := 8) C gcX11 inX11 tyX11_ok nmX11 (by decide) fl_Mo_175 rfl ha0 (tyX11_ok 8 (by decide)) rfl rfl (Nat.le_of_ble_eq_true rfl) gs_11_8 (fun b hb => up2_of hb) (fun _ _ => rfl) (fun _ _ => rfl) d_Mo_rootOnce_272 ?_
  obtain ⟨I3, eI3, h⟩ := o_bd h
  rw [← eI3]
  refine g_iconst (pc := 275) C (0 : Int32) d_Mo_rootOnce_275 (by decide) ?_
  obtain rfl := o_ret h
  exact g_iret (pc := 276) C d_Mo_rootOnce_276
set_option maxRecDepth 20000 in
theorem w_Mo_rootOnce_241 {X : HX} {ad : Nat → Nat} {I : HI} {J : HJ} {N : HN} {r : HI × HJ × Int32} {a0 : Nat} {p1 : Int32} {p2 : Int32} {p3 : Int64} {p5 : Int64} {s0 : Int32} (C : Cx X c_Mo_rootOnce RX11 23 (some .int) rm_Mo_rootOnce) (ha0 : gk Tm nM a0 (0, 11))
    (h : Mo_rootOnce_241 N a0 p1 p2 p3 p5 I J s0 = some r) : G Tm X ad nM 0 0 I J N (gE X Tm ad nM (r.1, r.2.1, N, fun _ => some (.int r.2.2))) 241 23 [(0, .ref (ad a0)), (1, .int p1)] [.int s0] := by
  refine g_istore (pc := 241) (lv' := [(22, .int s0), (0, .ref (ad a0)), (1, .int p1)]) C d_Mo_rootOnce_241 (by decide) rfl ?_
  refine g_iload (pc := 243) C d_Mo_rootOnce_243 0 rfl ?_
  refine g_if_ne (pc := 245) C 251 d_Mo_rootOnce_245 rfl (fun e1 => ?_) (fun e1 => ?_)
  · have h := o_neg e1 h
    refine g_aload_n (pc := 251) C d_Mo_rootOnce_251 rfl 1 rfl ?_
    refine g_iload_n (pc := 252) C d_Mo_rootOnce_252 rfl 2 rfl ?_
    refine g_iconst (pc := 253) C (2 : Int32) d_Mo_rootOnce_253 (by decide) ?_
    refine g_icmp_ne (pc := 254) C 261 d_Mo_rootOnce_254 rfl (fun e2 => ?_) (fun e2 => ?_)
    · have h := o_neg e2 h
      refine g_iconst (pc := 261) C (1 : Int32) d_Mo_rootOnce_261 (by decide) ?_
      refine g_lv [1] rfl ?_
      exact w_Mo_rootOnce_262 C ha0 ha0 h
    · have h := o_pos e2 h
      refine g_iconst (pc := 257) C (3 : Int32) d_Mo_rootOnce_257 (by decide) ?_
      refine g_goto (pc := 258) C 262 d_Mo_rootOnce_258 rfl ?_
      refine g_lv [1] rfl ?_
      exact w_Mo_rootOnce_262 C ha0 ha0 h
  · have h := o_pos e1 h
    refine g_bipush (pc := 248) C (-5 : Int32) d_Mo_rootOnce_248 (by decide) ?_
    obtain rfl := o_ret h
    exact g_iret (pc := 250) C d_Mo_rootOnce_250
set_option maxRecDepth 20000 in
theorem w_Mo_rootOnce_240 {X : HX} {ad : Nat → Nat} {I : HI} {J : HJ} {N : HN} {r : HI × HJ × Int32} {a0 : Nat} {p1 : Int32} {p2 : Int32} {p3 : Int64} {p5 : Int64} (C : Cx X c_Mo_rootOnce RX11 23 (some .int) rm_Mo_rootOnce) (ha0 : gk Tm nM a0 (0, 11))
    (h : Mo_rootOnce_240 N a0 p1 p2 p3 p5 I J = some r) : G Tm X ad nM 0 0 I J N (gE X Tm ad nM (r.1, r.2.1, N, fun _ => some (.int r.2.2))) 240 23 [(0, .ref (ad a0)), (1, .int p1)] [] := by
  refine g_iconst (pc := 240) C (0 : Int32) d_Mo_rootOnce_240 (by decide) ?_
  refine g_lv [0, 1] rfl ?_
  exact w_Mo_rootOnce_241 C ha0 h
set_option maxRecDepth 20000 in
theorem w_Mo_rootOnce_213 {X : HX} {ad : Nat → Nat} {I : HI} {J : HJ} {N : HN} {r : HI × HJ × Int32} {a0 : Nat} {p1 : Int32} {p2 : Int32} {p3 : Int64} {p5 : Int64} {x18 : Int64} {x20 : Int64} {x22 : Int32} {bs0 : Nat} {s1 : Int32} (C : Cx X c_Mo_rootOnce RX11 23 (some .int) rm_Mo_rootOnce) (ha0 : gk Tm nM a0 (0, 11)) (hbs0 : gk Tm nM bs0 (0, 11))
    (h : Mo_rootOnce_213 N a0 p1 p2 p3 p5 I J x18 x20 x22 bs0 s1 = some r) : G Tm X ad nM 0 0 I J N (gE X Tm ad nM (r.1, r.2.1, N, fun _ => some (.int r.2.2))) 213 23 [(0, .ref (ad a0)), (1, .int p1), (18, .long x18), (20, .long x20), (22, .int x22)] [.int s1, .ref (ad bs0)] := by
  obtain ⟨I1, hc2, h⟩ := o_bn1 h
  refine g_V (pc := 213) (rest := []) C (k_Mo_lays (xl X) hbs0 hc2) sm_Mo_lays ml_Mo_214 im_Mo_lays se_Mo_lays gcX11 rfl hbs0 ⟨rfl, rfl, Nat.le_of_ble_eq_true rfl, Nat.le_of_ble_eq_true rfl⟩ ⟨Nat.zero_le _, Nat.zero_le _⟩ rfl rfl (Nat.le_of_ble_eq_true rfl) d_Mo_rootOnce_213 [] rfl ?_
  refine g_aload_n (pc := 216) C d_Mo_rootOnce_216 rfl 0 rfl ?_
  refine g_lload (pc := 217) C d_Mo_rootOnce_217 3 rfl ?_
  refine g_lload (pc := 219) C d_Mo_rootOnce_219 2 rfl ?_
  obtain ⟨J3, hc4, h⟩ := o_bn1 h
  refine g_V (pc := 221) (rest := []) C (k_Mo_takes (xl X) ha0 hc4) sm_Mo_takes ml_Mo_203 im_Mo_takes se_Mo_takes gcX11 rfl ha0 ⟨rfl, rfl, Nat.le_of_ble_eq_true rfl, Nat.le_of_ble_eq_true rfl⟩ ⟨Nat.zero_le _, Nat.zero_le _⟩ rfl rfl (Nat.le_of_ble_eq_true rfl) d_Mo_rootOnce_221 [] rfl ?_
  refine g_iload (pc := 224) C d_Mo_rootOnce_224 4 rfl ?_
  refine g_if_eq (pc := 226) C 240 d_Mo_rootOnce_226 rfl (fun e5 => ?_) (fun e5 => ?_)
  · have h := o_pos e5 h
    refine g_lv [0, 1] rfl ?_
    exact w_Mo_rootOnce_240 C ha0 h
  · have h := o_neg e5 h
    refine g_aload_n (pc := 229) C d_Mo_rootOnce_229 rfl 0 rfl ?_
    obtain ⟨r6, hc7, h⟩ := o_bn1 h
    refine g_V (pc := 230) (rest := []) C (k_Mo_isHandy (xl X) ha0 hc7) sm_Mo_isHandy ml_Mo_207 im_Mo_isHandy se_Mo_isHandy gcX11 rfl ha0 ⟨rfl, rfl, Nat.le_of_ble_eq_true rfl, Nat.le_of_ble_eq_true rfl⟩ ⟨Nat.zero_le _, Nat.zero_le _⟩ rfl rfl (Nat.le_of_ble_eq_true rfl) d_Mo_rootOnce_230 [.int r6] rfl ?_
    refine g_if_eq (pc := 233) C 240 d_Mo_rootOnce_233 rfl (fun e8 => ?_) (fun e8 => ?_)
    · have h := o_pos e8 h
      refine g_lv [0, 1] rfl ?_
      exact w_Mo_rootOnce_240 C ha0 h
    · have h := o_neg e8 h
      refine g_iconst (pc := 236) C (1 : Int32) d_Mo_rootOnce_236 (by decide) ?_
      refine g_goto (pc := 237) C 241 d_Mo_rootOnce_237 rfl ?_
      refine g_lv [0, 1] rfl ?_
      exact w_Mo_rootOnce_241 C ha0 h
set_option maxRecDepth 20000 in
theorem w_Mo_rootOnce_148 {X : HX} {ad : Nat → Nat} {I : HI} {J : HJ} {N : HN} {r : HI × HJ × Int32} {a0 : Nat} {p1 : Int32} {p2 : Int32} {p3 : Int64} {p5 : Int64} {x14 : Int64} {x16 : Int64} {s0 : Int32} {s1 : Int32} (C : Cx X c_Mo_rootOnce RX11 23 (some .int) rm_Mo_rootOnce) (ha0 : gk Tm nM a0 (0, 11))
    (h : Mo_rootOnce_148 N a0 p1 p2 p3 p5 I J x14 x16 s0 s1 = some r) : G Tm X ad nM 0 0 I J N (gE X Tm ad nM (r.1, r.2.1, N, fun _ => some (.int r.2.2))) 148 23 [(0, .ref (ad a0)), (1, .int p1), (2, .int p2), (3, .long p3), (5, .long p5), (14, .long x14), (16, .long x16)] [.int s1, .int s0] := by
  refine g_icmp_eq (pc := 148) C 156 d_Mo_rootOnce_148 rfl (fun e1 => ?_) (fun e1 => ?_)
  · have h := o_pos e1 h
    refine g_aload_n (pc := 156) C d_Mo_rootOnce_156 rfl 0 rfl ?_
    refine g_lload (pc := 157) C d_Mo_rootOnce_157 5 rfl ?_
    refine g_lload (pc := 159) C d_Mo_rootOnce_159 6 rfl ?_
    obtain ⟨J2, hc3, h⟩ := o_bn1 h
    refine g_V (pc := 161) (rest := []) C (k_Mo_takes (xl X) ha0 hc3) sm_Mo_takes ml_Mo_203 im_Mo_takes se_Mo_takes gcX11 rfl ha0 ⟨rfl, rfl, Nat.le_of_ble_eq_true rfl, Nat.le_of_ble_eq_true rfl⟩ ⟨Nat.zero_le _, Nat.zero_le _⟩ rfl rfl (Nat.le_of_ble_eq_true rfl) d_Mo_rootOnce_161 [] rfl ?_
    refine g_aload_n (pc := 164) C d_Mo_rootOnce_164 rfl 0 rfl ?_
    refine g_get (pc := 165) (k := 9) (v := .long (J2 a0 9)) C gcX11 inX11 (by decide) fl_Mo_166 ha0 rfl d_Mo_rootOnce_165 ?_
    obtain ⟨v4, ev4, h⟩ := o_bd h
    refine g_topl ev4 ?_
    refine g_lstore (pc := 168) (lv' := [(18, .long v4), (0, .ref (ad a0)), (1, .int p1), (2, .int p2), (3, .long p3), (5, .long p5), (14, .long x14), (16, .long x16)]) C d_Mo_rootOnce_168 (by decide) rfl ?_
    refine g_aload_n (pc := 170) C d_Mo_rootOnce_170 rfl 1 rfl ?_
    refine g_get (pc := 171) (k := 10) (v := .long (J2 a0 10)) C gcX11 inX11 (by decide) fl_Mo_170 ha0 rfl d_Mo_rootOnce_171 ?_
    obtain ⟨v5, ev5, h⟩ := o_bd h
    refine g_topl ev5 ?_
    refine g_lstore (pc := 174) (lv' := [(20, .long v5), (18, .long v4), (0, .ref (ad a0)), (1, .int p1), (2, .int p2), (3, .long p3), (5, .long p5), (14, .long x14), (16, .long x16)]) C d_Mo_rootOnce_174 (by decide) rfl ?_
    refine g_aload_n (pc := 176) C d_Mo_rootOnce_176 rfl 2 rfl ?_
    refine g_iload_n (pc := 177) C d_Mo_rootOnce_177 rfl 3 rfl ?_
    refine g_iconst (pc := 178) C (2 : Int32) d_Mo_rootOnce_178 (by decide) ?_
    refine g_isub (pc := 179) C d_Mo_rootOnce_179 ?_
    obtain ⟨I6, hc7, h⟩ := o_bn1 h
    refine g_V (pc := 180) (rest := []) C (k_Mo_makes (xl X) ha0 hc7) sm_Mo_makes ml_Mo_210 im_Mo_makes se_Mo_makes gcX11 rfl ha0 ⟨rfl, rfl, Nat.le_of_ble_eq_true rfl, Nat.le_of_ble_eq_true rfl⟩ ⟨Nat.zero_le _, Nat.zero_le _⟩ rfl rfl (Nat.le_of_ble_eq_true rfl) d_Mo_rootOnce_180 [] rfl ?_
    refine g_aload_n (pc := 183) C d_Mo_rootOnce_183 rfl 2 rfl ?_
    refine g_lload (pc := 184) C d_Mo_rootOnce_184 1 rfl ?_
    refine g_lload (pc := 186) C d_Mo_rootOnce_186 6 rfl ?_
    refine g_lmul (pc := 188) C d_Mo_rootOnce_188 ?_
    refine g_lload (pc := 189) C d_Mo_rootOnce_189 0 rfl ?_
    refine g_lload_n (pc := 191) C d_Mo_rootOnce_191 rfl 5 rfl ?_
    refine g_lmul (pc := 192) C d_Mo_rootOnce_192 ?_
    obtain ⟨J8, hc9, h⟩ := o_bn1 h
    refine g_V (pc := 193) (rest := []) C (k_Mo_takes (xl X) ha0 hc9) sm_Mo_takes ml_Mo_203 im_Mo_takes se_Mo_takes gcX11 rfl ha0 ⟨rfl, rfl, Nat.le_of_ble_eq_true rfl, Nat.le_of_ble_eq_true rfl⟩ ⟨Nat.zero_le _, Nat.zero_le _⟩ rfl rfl (Nat.le_of_ble_eq_true rfl) d_Mo_rootOnce_193 [] rfl ?_
    refine g_aload_n (pc := 196) C d_Mo_rootOnce_196 rfl 2 rfl ?_
    obtain ⟨r10, hc11, h⟩ := o_bn1 h
    refine g_V (pc := 197) (rest := []) C (k_Mo_isHandy (xl X) ha0 hc11) sm_Mo_isHandy ml_Mo_207 im_Mo_isHandy se_Mo_isHandy gcX11 rfl ha0 ⟨rfl, rfl, Nat.le_of_ble_eq_true rfl, Nat.le_of_ble_eq_true rfl⟩ ⟨Nat.zero_le _, Nat.zero_le _⟩ rfl rfl (Nat.le_of_ble_eq_true rfl) d_Mo_rootOnce_197 [.int r10] rfl ?_
    refine g_istore (pc := 200) (lv' := [(22, .int r10), (20, .long v5), (18, .long v4), (0, .ref (ad a0)), (1, .int p1), (2, .int p2), (3, .long p3), (5, .long p5), (14, .long x14), (16, .long x16)]) C d_Mo_rootOnce_200 (by decide) rfl ?_
    refine g_aload_n (pc := 202) C d_Mo_rootOnce_202 rfl 3 rfl ?_
    refine g_iload_n (pc := 203) C d_Mo_rootOnce_203 rfl 4 rfl ?_
    refine g_iconst (pc := 204) C (2 : Int32) d_Mo_rootOnce_204 (by decide) ?_
    refine g_icmp_ne (pc := 205) C 212 d_Mo_rootOnce_205 rfl (fun e12 => ?_) (fun e12 => ?_)
    · have h := o_neg e12 h
      refine g_iconst (pc := 212) C (3 : Int32) d_Mo_rootOnce_212 (by decide) ?_
      refine g_lv [3, 4, 2, 1, 0] rfl ?_
      exact w_Mo_rootOnce_213 C ha0 ha0 h
    · have h := o_pos e12 h
      refine g_iconst (pc := 208) C (1 : Int32) d_Mo_rootOnce_208 (by decide) ?_
      refine g_goto (pc := 209) C 213 d_Mo_rootOnce_209 rfl ?_
      refine g_lv [3, 4, 2, 1, 0] rfl ?_
      exact w_Mo_rootOnce_213 C ha0 ha0 h
  · have h := o_neg e1 h
    refine g_bipush (pc := 151) C (-100 : Int32) d_Mo_rootOnce_151 (by decide) ?_
    refine g_iload_n (pc := 153) C d_Mo_rootOnce_153 rfl 2 rfl ?_
    refine g_isub (pc := 154) C d_Mo_rootOnce_154 ?_
    obtain rfl := o_ret h
    exact g_iret (pc := 155) C d_Mo_rootOnce_155
set_option maxRecDepth 20000 in
theorem w_Mo_rootOnce_136 {X : HX} {ad : Nat → Nat} {I : HI} {J : HJ} {N : HN} {r : HI × HJ × Int32} {a0 : Nat} {p1 : Int32} {p2 : Int32} {p3 : Int64} {p5 : Int64} {x14 : Int64} {x16 : Int64} {s0 : Int32} (C : Cx X c_Mo_rootOnce RX11 23 (some .int) rm_Mo_rootOnce) (ha0 : gk Tm nM a0 (0, 11))
    (h : Mo_rootOnce_136 N a0 p1 p2 p3 p5 I J x14 x16 s0 = some r) : G Tm X ad nM 0 0 I J N (gE X Tm ad nM (r.1, r.2.1, N, fun _ => some (.int r.2.2))) 136 23 [(0, .ref (ad a0)), (1, .int p1), (2, .int p2), (3, .long p3), (5, .long p5), (14, .long x14), (16, .long x16)] [.int s0] := by
  refine g_lload (pc := 136) C d_Mo_rootOnce_136 6 rfl ?_
  refine g_lconst (pc := 138) C (0 : Int64) d_Mo_rootOnce_138 (by decide) ?_
  refine g_lcmp_ge (pc := 139) C 147 d_Mo_rootOnce_139 d_Mo_rootOnce_140 rfl (fun e1 => ?_) (fun e1 => ?_)
  · have h := o_pos e1 h
    refine g_iconst (pc := 147) C (0 : Int32) d_Mo_rootOnce_147 (by decide) ?_
    refine g_lv [0, 1, 2, 3, 4, 5, 6] rfl ?_
    exact w_Mo_rootOnce_148 C ha0 h
  · have h := o_neg e1 h
    refine g_iconst (pc := 143) C (1 : Int32) d_Mo_rootOnce_143 (by decide) ?_
    refine g_goto (pc := 144) C 148 d_Mo_rootOnce_144 rfl ?_
    refine g_lv [0, 1, 2, 3, 4, 5, 6] rfl ?_
    exact w_Mo_rootOnce_148 C ha0 h
set_option maxRecDepth 20000 in
theorem w_Mo_rootOnce_121 {X : HX} {ad : Nat → Nat} {I : HI} {J : HJ} {N : HN} {r : HI × HJ × Int32} {a0 : Nat} {p1 : Int32} {p2 : Int32} {p3 : Int64} {p5 : Int64} {x14 : Int64} {s0 : Int64} {s1 : Int64} (C : Cx X c_Mo_rootOnce RX11 23 (some .int) rm_Mo_rootOnce) (ha0 : gk Tm nM a0 (0, 11))
    (h : Mo_rootOnce_121 N a0 p1 p2 p3 p5 I J x14 s0 s1 = some r) : G Tm X ad nM 0 0 I J N (gE X Tm ad nM (r.1, r.2.1, N, fun _ => some (.int r.2.2))) 121 23 [(0, .ref (ad a0)), (1, .int p1), (2, .int p2), (3, .long p3), (5, .long p5), (14, .long x14)] [.long s1, .long s0] := by
  refine g_lmul (pc := 121) C d_Mo_rootOnce_121 ?_
  obtain ⟨v1, ev1, h⟩ := o_bd h
  refine g_topl ev1 ?_
  refine g_lstore (pc := 122) (lv' := [(16, .long v1), (0, .ref (ad a0)), (1, .int p1), (2, .int p2), (3, .long p3), (5, .long p5), (14, .long x14)]) C d_Mo_rootOnce_122 (by decide) rfl ?_
  refine g_lload (pc := 124) C d_Mo_rootOnce_124 6 rfl ?_
  refine g_lconst (pc := 126) C (0 : Int64) d_Mo_rootOnce_126 (by decide) ?_
  refine g_lcmp_ge (pc := 127) C 135 d_Mo_rootOnce_127 d_Mo_rootOnce_128 rfl (fun e2 => ?_) (fun e2 => ?_)
  · have h := o_pos e2 h
    refine g_iconst (pc := 135) C (0 : Int32) d_Mo_rootOnce_135 (by decide) ?_
    refine g_lv [1, 2, 3, 4, 5, 6, 0] rfl ?_
    exact w_Mo_rootOnce_136 C ha0 h
  · have h := o_neg e2 h
    refine g_iconst (pc := 131) C (1 : Int32) d_Mo_rootOnce_131 (by decide) ?_
    refine g_goto (pc := 132) C 136 d_Mo_rootOnce_132 rfl ?_
    refine g_lv [1, 2, 3, 4, 5, 6, 0] rfl ?_
    exact w_Mo_rootOnce_136 C ha0 h
set_option maxRecDepth 20000 in
theorem w_Mo_rootOnce_95 {X : HX} {ad : Nat → Nat} {I : HI} {J : HJ} {N : HN} {r : HI × HJ × Int32} {a0 : Nat} {p1 : Int32} {p2 : Int32} {p3 : Int64} {p5 : Int64} {x7 : Int64} {x9 : Int64} {x13 : Int32} {s0 : Int64} {s1 : Int64} (C : Cx X c_Mo_rootOnce RX11 23 (some .int) rm_Mo_rootOnce) (ha0 : gk Tm nM a0 (0, 11))
    (h : Mo_rootOnce_95 N a0 p1 p2 p3 p5 I J x7 x9 x13 s0 s1 = some r) : G Tm X ad nM 0 0 I J N (gE X Tm ad nM (r.1, r.2.1, N, fun _ => some (.int r.2.2))) 95 23 [(0, .ref (ad a0)), (1, .int p1), (2, .int p2), (3, .long p3), (5, .long p5), (7, .long x7), (9, .long x9), (13, .int x13)] [.long s1, .long s0] := by
  refine g_lmul (pc := 95) C d_Mo_rootOnce_95 ?_
  obtain ⟨v1, ev1, h⟩ := o_bd h
  refine g_topl ev1 ?_
  refine g_lstore (pc := 96) (lv' := [(14, .long v1), (0, .ref (ad a0)), (1, .int p1), (2, .int p2), (3, .long p3), (5, .long p5), (7, .long x7), (9, .long x9), (13, .int x13)]) C d_Mo_rootOnce_96 (by decide) rfl ?_
  refine g_lload (pc := 98) C d_Mo_rootOnce_98 6 rfl ?_
  refine g_lload (pc := 100) C d_Mo_rootOnce_100 7 rfl ?_
  refine g_lmul (pc := 102) C d_Mo_rootOnce_102 ?_
  refine g_iload (pc := 103) C d_Mo_rootOnce_103 8 rfl ?_
  refine g_if_ge (pc := 105) C 120 d_Mo_rootOnce_105 rfl (fun e2 => ?_) (fun e2 => ?_)
  · have h := o_pos e2 h
    refine g_lconst (pc := 120) C (1 : Int64) d_Mo_rootOnce_120 (by decide) ?_
    refine g_lv [1, 2, 3, 4, 5, 0] rfl ?_
    exact w_Mo_rootOnce_121 C ha0 h
  · have h := o_neg e2 h
    refine g_lload (pc := 108) C d_Mo_rootOnce_108 5 rfl ?_
    refine g_iconst (pc := 110) C (0 : Int32) d_Mo_rootOnce_110 (by decide) ?_
    refine g_iload (pc := 111) C d_Mo_rootOnce_111 8 rfl ?_
    refine g_isub (pc := 113) C d_Mo_rootOnce_113 ?_
    obtain ⟨r3, hc4, h⟩ := o_bn1 h
    refine g_S (pc := 114) (rest := [.long (x7 * x9)]) C (k_Mo_power (xl X)  hc4) sm_Mo_power ml_Mo_144 st_Mo_power ⟨rfl, rfl, Nat.le_of_ble_eq_true rfl, Nat.le_of_ble_eq_true rfl⟩ ⟨Nat.zero_le _, Nat.zero_le _⟩ rfl rfl (Nat.le_of_ble_eq_true rfl) d_Mo_rootOnce_114 [.long r3, .long (x7 * x9)] rfl ?_
    refine g_goto (pc := 117) C 121 d_Mo_rootOnce_117 rfl ?_
    refine g_lv [1, 2, 3, 4, 5, 0] rfl ?_
    exact w_Mo_rootOnce_121 C ha0 h
set_option maxRecDepth 20000 in
theorem w_Mo_rootOnce_31 {X : HX} {ad : Nat → Nat} {I : HI} {J : HJ} {N : HN} {r : HI × HJ × Int32} {a0 : Nat} {p1 : Int32} {p2 : Int32} {p3 : Int64} {p5 : Int64} (C : Cx X c_Mo_rootOnce RX11 23 (some .int) rm_Mo_rootOnce) (ha0 : gk Tm nM a0 (0, 11))
    (h : Mo_rootOnce_31 N a0 p1 p2 p3 p5 I J = some r) : G Tm X ad nM 0 0 I J N (gE X Tm ad nM (r.1, r.2.1, N, fun _ => some (.int r.2.2))) 31 23 [(2, .int p2)] [] := by
  refine g_bipush (pc := 31) C (-100 : Int32) d_Mo_rootOnce_31 (by decide) ?_
  refine g_iload_n (pc := 33) C d_Mo_rootOnce_33 rfl 0 rfl ?_
  refine g_isub (pc := 34) C d_Mo_rootOnce_34 ?_
  obtain rfl := o_ret h
  exact g_iret (pc := 35) C d_Mo_rootOnce_35
set_option maxRecDepth 20000 in
theorem w_Mo_rootOnce_0 {X : HX} {ad : Nat → Nat} {I : HI} {J : HJ} {N : HN} {r : HI × HJ × Int32} {a0 : Nat} {p1 : Int32} {p2 : Int32} {p3 : Int64} {p5 : Int64} (C : Cx X c_Mo_rootOnce RX11 23 (some .int) rm_Mo_rootOnce) (ha0 : gk Tm nM a0 (0, 11))
    (h : Mo_rootOnce_0 N a0 p1 p2 p3 p5 I J = some r) : G Tm X ad nM 0 0 I J N (gE X Tm ad nM (r.1, r.2.1, N, fun _ => some (.int r.2.2))) 0 23 [(0, .ref (ad a0)), (1, .int p1), (2, .int p2), (3, .long p3), (5, .long p5)] [] := by
  refine g_lconst (pc := 0) C (0 : Int64) d_Mo_rootOnce_0 (by decide) ?_
  refine g_lload_n (pc := 1) C d_Mo_rootOnce_1 rfl 3 rfl ?_
  refine g_lsub (pc := 2) C d_Mo_rootOnce_2 ?_
  obtain ⟨v1, ev1, h⟩ := o_bd h
  refine g_topl ev1 ?_
  refine g_lstore (pc := 3) (lv' := [(7, .long v1), (0, .ref (ad a0)), (1, .int p1), (2, .int p2), (3, .long p3), (5, .long p5)]) C d_Mo_rootOnce_3 (by decide) rfl ?_
  refine g_aload_n (pc := 5) C d_Mo_rootOnce_5 rfl 1 rfl ?_
  obtain ⟨b2, hnb2, hb2, h⟩ := o_ra h
  refine g_get (pc := 6) (k := 22) (v := va_rf ((N a0 22).map ad)) C gcX11 inX11 (by decide) fl_Mo_53 ha0 rfl d_Mo_rootOnce_6 ?_
  refine g_top (g_rf hnb2) ?_
  refine g_lload (pc := 9) C d_Mo_rootOnce_9 0 rfl ?_
  refine g_lload (pc := 11) C d_Mo_rootOnce_11 5 rfl ?_
  obtain ⟨r3, hc4, h⟩ := o_bn1 h
  refine g_S (pc := 13) (rest := []) C (k_Mo_valueAt (xl X) hb2 hc4) sm_Mo_valueAt ml_Mo_217 st_Mo_valueAt ⟨rfl, rfl, Nat.le_of_ble_eq_true rfl, Nat.le_of_ble_eq_true rfl⟩ ⟨Nat.zero_le _, Nat.zero_le _⟩ rfl rfl (Nat.le_of_ble_eq_true rfl) d_Mo_rootOnce_13 [.long r3] rfl ?_
  refine g_lstore (pc := 16) (lv' := [(9, .long r3), (7, .long v1), (0, .ref (ad a0)), (1, .int p1), (2, .int p2), (3, .long p3), (5, .long p5)]) C d_Mo_rootOnce_16 (by decide) rfl ?_
  refine g_lload_n (pc := 18) C d_Mo_rootOnce_18 rfl 5 rfl ?_
  refine g_lconst (pc := 19) C (0 : Int64) d_Mo_rootOnce_19 (by decide) ?_
  refine g_lcmp_le (pc := 20) C 31 d_Mo_rootOnce_20 d_Mo_rootOnce_21 rfl (fun e5 => ?_) (fun e5 => ?_)
  · have h := o_pos e5 h
    refine g_lv [4] rfl ?_
    exact w_Mo_rootOnce_31 C ha0 h
  · have h := o_neg e5 h
    refine g_lload (pc := 24) C d_Mo_rootOnce_24 0 rfl ?_
    refine g_lconst (pc := 26) C (0 : Int64) d_Mo_rootOnce_26 (by decide) ?_
    refine g_lcmp_ne (pc := 27) C 36 d_Mo_rootOnce_27 d_Mo_rootOnce_28 rfl (fun e6 => ?_) (fun e6 => ?_)
    · have h := o_neg e6 h
      refine g_aload_n (pc := 36) C d_Mo_rootOnce_36 rfl 2 rfl ?_
      obtain ⟨b7, hnb7, hb7, h⟩ := o_ra h
      refine g_get (pc := 37) (k := 15) (v := va_rf ((N a0 15).map ad)) C gcX11 inX11 (by decide) fl_Mo_35 ha0 rfl d_Mo_rootOnce_37 ?_
      refine g_top (g_rf hnb7) ?_
      refine g_lload (pc := 40) C d_Mo_rootOnce_40 1 rfl ?_
      refine g_lload (pc := 42) C d_Mo_rootOnce_42 6 rfl ?_
      obtain ⟨r8, hc9, h⟩ := o_bn1 h
      refine g_S (pc := 44) (rest := []) C (k_Mo_valueAt (xl X) hb7 hc9) sm_Mo_valueAt ml_Mo_217 st_Mo_valueAt ⟨rfl, rfl, Nat.le_of_ble_eq_true rfl, Nat.le_of_ble_eq_true rfl⟩ ⟨Nat.zero_le _, Nat.zero_le _⟩ rfl rfl (Nat.le_of_ble_eq_true rfl) d_Mo_rootOnce_44 [.long r8] rfl ?_
      refine g_lstore (pc := 47) (lv' := [(11, .long r8), (9, .long r3), (7, .long v1), (0, .ref (ad a0)), (1, .int p1), (2, .int p2), (3, .long p3), (5, .long p5)]) C d_Mo_rootOnce_47 (by decide) rfl ?_
      refine g_lload (pc := 49) C d_Mo_rootOnce_49 0 rfl ?_
      refine g_lconst (pc := 51) C (0 : Int64) d_Mo_rootOnce_51 (by decide) ?_
      refine g_lcmp_ne (pc := 52) C 58 d_Mo_rootOnce_52 d_Mo_rootOnce_53 rfl (fun e10 => ?_) (fun e10 => ?_)
      · have h := o_neg e10 h
        refine g_aload_n (pc := 58) C d_Mo_rootOnce_58 rfl 3 rfl ?_
        obtain ⟨b11, hnb11, hb11, h⟩ := o_ra h
        refine g_get (pc := 59) (k := 22) (v := va_rf ((N a0 22).map ad)) C gcX11 inX11 (by decide) fl_Mo_53 ha0 rfl d_Mo_rootOnce_59 ?_
        refine g_top (g_rf hnb11) ?_
        obtain ⟨r12, hc13, h⟩ := o_bn1 h
        refine g_S (pc := 62) (rest := []) C (k_Mo_top (xl X) hb11 hc13) sm_Mo_top ml_Mo_184 st_Mo_top ⟨rfl, rfl, Nat.le_of_ble_eq_true rfl, Nat.le_of_ble_eq_true rfl⟩ ⟨Nat.zero_le _, Nat.zero_le _⟩ rfl rfl (Nat.le_of_ble_eq_true rfl) d_Mo_rootOnce_62 [.int r12] rfl ?_
        refine g_iconst (pc := 65) C (1 : Int32) d_Mo_rootOnce_65 (by decide) ?_
        refine g_iadd (pc := 66) C d_Mo_rootOnce_66 ?_
        refine g_aload_n (pc := 67) C d_Mo_rootOnce_67 rfl 3 rfl ?_
        obtain ⟨b14, hnb14, hb14, h⟩ := o_ra h
        refine g_get (pc := 68) (k := 15) (v := va_rf ((N a0 15).map ad)) C gcX11 inX11 (by decide) fl_Mo_35 ha0 rfl d_Mo_rootOnce_68 ?_
        refine g_top (g_rf hnb14) ?_
        obtain ⟨r15, hc16, h⟩ := o_bn1 h
        refine g_S (pc := 71) (rest := [.int (r12 + (1 : Int32))]) C (k_Mo_top (xl X) hb14 hc16) sm_Mo_top ml_Mo_184 st_Mo_top ⟨rfl, rfl, Nat.le_of_ble_eq_true rfl, Nat.le_of_ble_eq_true rfl⟩ ⟨Nat.zero_le _, Nat.zero_le _⟩ rfl rfl (Nat.le_of_ble_eq_true rfl) d_Mo_rootOnce_71 [.int r15, .int (r12 + (1 : Int32))] rfl ?_
        refine g_isub (pc := 74) C d_Mo_rootOnce_74 ?_
        obtain ⟨v17, ev17, h⟩ := o_bd h
        refine g_topi ev17 ?_
        refine g_istore (pc := 75) (lv' := [(13, .int v17), (11, .long r8), (9, .long r3), (7, .long v1), (0, .ref (ad a0)), (1, .int p1), (2, .int p2), (3, .long p3), (5, .long p5)]) C d_Mo_rootOnce_75 (by decide) rfl ?_
        refine g_lload (pc := 77) C d_Mo_rootOnce_77 1 rfl ?_
        refine g_iload (pc := 79) C d_Mo_rootOnce_79 0 rfl ?_
        refine g_if_le (pc := 81) C 94 d_Mo_rootOnce_81 rfl (fun e18 => ?_) (fun e18 => ?_)
        · have h := o_pos e18 h
          refine g_lconst (pc := 94) C (1 : Int64) d_Mo_rootOnce_94 (by decide) ?_
          refine g_lv [4, 5, 6, 7, 8, 3, 2, 0] rfl ?_
          exact w_Mo_rootOnce_95 C ha0 h
        · have h := o_neg e18 h
          refine g_lload (pc := 84) C d_Mo_rootOnce_84 8 rfl ?_
          refine g_iload (pc := 86) C d_Mo_rootOnce_86 0 rfl ?_
          obtain ⟨r19, hc20, h⟩ := o_bn1 h
          refine g_S (pc := 88) (rest := [.long r8]) C (k_Mo_power (xl X)  hc20) sm_Mo_power ml_Mo_144 st_Mo_power ⟨rfl, rfl, Nat.le_of_ble_eq_true rfl, Nat.le_of_ble_eq_true rfl⟩ ⟨Nat.zero_le _, Nat.zero_le _⟩ rfl rfl (Nat.le_of_ble_eq_true rfl) d_Mo_rootOnce_88 [.long r19, .long r8] rfl ?_
          refine g_goto (pc := 91) C 95 d_Mo_rootOnce_91 rfl ?_
          refine g_lv [4, 5, 6, 7, 8, 3, 2, 0] rfl ?_
          exact w_Mo_rootOnce_95 C ha0 h
      · have h := o_pos e10 h
        refine g_iconst (pc := 56) C (0 : Int32) d_Mo_rootOnce_56 (by decide) ?_
        obtain rfl := o_ret h
        exact g_iret (pc := 57) C d_Mo_rootOnce_57
    · have h := o_pos e6 h
      refine g_lv [4] rfl ?_
      exact w_Mo_rootOnce_31 C ha0 h
set_option maxRecDepth 20000 in
theorem k_Mo_rootOnce (l : Launch) {I : HI} {J : HJ} {N : HN} {a0 : Nat} {p1 : Int32} {p2 : Int32} {p3 : Int64} {p5 : Int64} {r : HI × HJ × Int32} (ha0 : gk Tm nM a0 (0, 11)) (h : Mo_rootOnce N a0 p1 p2 p3 p5 I J = some r) : gM l y_Mo_rootOnce c_Mo_rootOnce 23 (some .int) rm_Mo_rootOnce Tm nM I J N (fun ad => [.ref (ad a0), .int p1, .int p2, .long p3, .long p5]) (r.1, r.2.1, N, fun _ => some (.int r.2.2)) :=
  g_meth (lv := fun ad => [(0, .ref (ad a0)), (1, .int p1), (2, .int p2), (3, .long p3), (5, .long p5)]) (by decide) (fun _ => Nat.le_of_ble_eq_true rfl) (fun _ => rfl) (fun X ad C => g_lv [0, 1, 2, 3, 4] rfl (w_Mo_rootOnce_0 C ha0 h))
