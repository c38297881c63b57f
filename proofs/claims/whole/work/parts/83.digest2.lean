theorem bn1_id {A : Type} {x : Option A} : bn1 x (fun r => some r) = x := by cases x <;> rfl
theorem bn3_id {A B C : Type} {x : Option (A × B × C)} : bn3 x (fun a b c => some (a, b, c)) = x := by
  cases x with
  | none => rfl
  | some v => obtain ⟨a, b, c⟩ := v; rfl
theorem p01 {p : Nat} (h : p < 2) : nI p = 0 ∨ nI p = 1 := by
  rcases (show p = 0 ∨ p = 1 by omega) with rfl | rfl
  · exact Or.inl rfl
  · exact Or.inr rfl
theorem dig_6 {w : Nat → Bool} {I I2 : HI} {J : HJ} : ∀ (r k n n' : Nat) (J2 : HJ) (x : Int64), k + r = 8 → r < n → r < n' → Body w I J I2 J2 → ∃ (J2' : HJ) (x' : Int64), Lm_digest_6 0 n I J (nn w) x (nI k) = Lm_digest_33 0 256 I J (nn w) x' 0 ∧ Mo_digest_6 N_m 0 n' I2 J2 x (nI k) = (bn1 (Mo_folds I2 N_m 0 J2') fun J2 => Mo_digest_37 N_m 0 256 I2 J2 x' 0) ∧ Body w I J I2 J2'
  | 0, k, n + 1, n' + 1, J2, x, hk, _, _, hB => by
    have e : k = 8 := by omega
    subst e
    refine ⟨J2, x, ?_, ?_, hB⟩
    · show Lm_digest_6b 0 (Lm_digest_6 0 n) I J (nn w) x (nI 8) = _
      unfold Lm_digest_6b
      rw [if_pos (by decide)]
    · show Mo_digest_6b N_m 0 (Mo_digest_6 N_m 0 n') I2 J2 x (nI 8) = _
      unfold Mo_digest_6b
      rw [if_pos (by decide)]
  | r + 1, k, n + 1, n' + 1, J2, x, hk, hn, hn', hB => by
    obtain ⟨m, q, hW, hS, hL, hF, hBi, hM, hf, hC⟩ := id hB
    obtain ⟨J3, v, h1, h2, h3⟩ := count_ok hL hW hF hBi hM hS hf (nI k)
    obtain ⟨J4, x', g1, g2, g3⟩ := dig_6 r (k + 1) n n' J3 (31 * x + v.toInt64) (by omega) (by omega) (by omega) (body_M hB h3)
    refine ⟨J4, x', ?_, ?_, g3⟩
    · show Lm_digest_6b 0 (Lm_digest_6 0 n) I J (nn w) x (nI k) = _
      unfold Lm_digest_6b
      rw [if_neg (fun h => by rw [show (7 : Int32) = nI 7 from rfl, Int32.lt_iff_toInt_lt, nI_toInt (by omega), nI_toInt (by omega)] at h; omega), h1, bn1_s, bd_e, nI_1, g1]
    · show Mo_digest_6b N_m 0 (Mo_digest_6 N_m 0 n') I2 J2 x (nI k) = _
      unfold Mo_digest_6b
      rw [if_neg (show ¬ (8 : Int32) ≤ nI k from nI_ge (a := k) (b := 8) (by omega) (by decide)), h2, bn2_s, bd_e, nI_1, g2]
theorem told_v {w : Nat → Bool} {I2 : HI} {J : HJ} {p k : Nat} (hW : RW (J (ab w 1 + 1)) (J (be w 1 + 1)) (I2 4)) (hp : p < 2) (hk : k < 7) : Lm_told J (nn w) 0 (nI p) (nI k) = some (I2 4 (7 * p + k)) := by
  obtain ⟨r, h1, h2⟩ := told_ok hW (nI p) (nI k)
  have e : Mo_told I2 N_m 0 (nI p) (nI k) = some (I2 4 (7 * p + k)) := by
    unfold Mo_told Mo_told_0
    rw [Mo_isTwo_s, bn1_s, decide_eq_true (p01 hp), if_neg b2i_t, Mo_in_6, bn1_s, inb_nI hk (by decide), if_neg b2i_t, mv_4, i7, gd_of (tm4i (by omega)), nI_clamp (by omega)]
  rw [h1, ← h2, e]
theorem fold_v {w : Nat → Bool} {I I2 : HI} {J J2 : HJ} {m k p : Nat} (hL : RL m (I 6 1) (I2 0 6) (fun k => I (8 + k)) (I2 5)) (hF : m ≠ 0 → RR 7 (J (ab w 15 + 1)) (J (be w 15 + 1)) (FO (I2 5) m)) (hR : RR 14 (J2 16) (J2 17) (FO (I2 5) m)) (hp : p < 2) (hk : k < 7) : ∃ r, Lm_fold I J (nn w) 0 (nI p) (nI k) = some r ∧ Mo_foldBy I2 J2 N_m 0 (nI p) (nI k) = some r := by
  obtain ⟨hm, hc, hc2, -, ha, hv⟩ := hL
  unfold Lm_fold Lm_fold_0 Mo_foldBy Mo_foldBy_0
  have hp' : nI p = 0 ∨ nI p = 1 := p01 hp
  rw [Lm_isPlace_s, bn1_s, decide_eq_true hp', if_neg b2i_t, Lm_isPower_s, bn1_s, inb_nI hk (by decide), if_neg b2i_t, nv_0_1, hc, hc2]
  by_cases h0 : m = 0
  · subst h0
    rw [if_pos (by decide), if_pos (by decide)]
    exact ⟨0, rfl, rfl⟩
  · have e0 : ¬ nI m = 0 := fun q => h0 ((nI_eq (b := 0) (by omega) (by decide)).mp q)
    have hRc := hF h0
    rw [if_neg e0, if_neg e0, nv_0_2, nv_14_0]
    rcases (show p = 0 ∨ p = 1 by omega) with rfl | rfl
    · rw [show nI 0 = (0 : Int32) from rfl, Pa_side_0s pa_15, bn1_s, gd_of (po_dec (isPa_ab pa_15 w)), Po_at_s (isPa_ab pa_15 w), bn1_s, if_pos rfl, mv_23, gd_of (tm16 (by omega)), nI_clamp (by omega), pat_nI hk]
      exact ⟨_, rfl, by rw [hR.1 k (by omega), hRc.1 k hk]⟩
    · rw [Pa_side_1s pa_15 (by decide), bn1_s, gd_of (po_dec (isPa_be pa_15 w)), Po_at_s (isPa_be pa_15 w), bn1_s, if_neg (by decide), mv_24, gd_of (tm17 (by omega)), nI_clamp (by omega), pat_nI hk]
      exact ⟨_, rfl, by rw [hR.2 k (by omega), hRc.2 k hk]⟩
theorem dig_33 {w : Nat → Bool} {I I2 : HI} {J J2 : HJ} {m : Nat} (hW : RW (J (ab w 1 + 1)) (J (be w 1 + 1)) (I2 4)) (hL : RL m (I 6 1) (I2 0 6) (fun k => I (8 + k)) (I2 5)) (hF : m ≠ 0 → RR 7 (J (ab w 15 + 1)) (J (be w 15 + 1)) (FO (I2 5) m)) (hR : RR 14 (J2 16) (J2 17) (FO (I2 5) m)) : ∀ (r k n n' : Nat) (x : Int64), k + r = 7 → r < n → r < n' → ∃ x' : Int64, Lm_digest_33 0 n I J (nn w) x (nI k) = Lm_digest_101 0 256 I J (nn w) x' 0 ∧ Mo_digest_37 N_m 0 n' I2 J2 x (nI k) = Mo_digest_108 N_m 0 256 I2 J2 x' 0
  | 0, k, n + 1, n' + 1, x, hk, _, _ => by
    have e : k = 7 := by omega
    subst e
    refine ⟨x, ?_, ?_⟩
    · show Lm_digest_33b 0 (Lm_digest_33 0 n) I J (nn w) x (nI 7) = _
      unfold Lm_digest_33b
      rw [if_pos (by decide)]
    · show Mo_digest_37b N_m 0 (Mo_digest_37 N_m 0 n') I2 J2 x (nI 7) = _
      unfold Mo_digest_37b
      rw [if_pos (by decide)]
  | r + 1, k, n + 1, n' + 1, x, hk, hn, hn' => by
    have h7 : k < 7 := by omega
    have t0 : Lm_told J (nn w) 0 0 (nI k) = some (I2 4 k) := by
      have := told_v (p := 0) hW (by decide) h7
      rw [show 7 * 0 + k = k by omega] at this
      exact this
    have t1 : Lm_told J (nn w) 0 1 (nI k) = some (I2 4 (7 + k)) := told_v (p := 1) hW (by decide) h7
    obtain ⟨a, a1, a2⟩ := fold_v (p := 0) hL hF hR (by decide) h7
    obtain ⟨b, b1, b2⟩ := fold_v (p := 1) hL hF hR (by decide) h7
    have a1 : Lm_fold I J (nn w) 0 0 (nI k) = some a := a1
    have a2 : Mo_foldBy I2 J2 N_m 0 0 (nI k) = some a := a2
    have b1 : Lm_fold I J (nn w) 0 1 (nI k) = some b := b1
    have b2 : Mo_foldBy I2 J2 N_m 0 1 (nI k) = some b := b2
    obtain ⟨x', g1, g2⟩ := dig_33 hW hL hF hR r (k + 1) n n' (31 * (31 * (31 * (31 * x + (I2 4 k).toInt64) + (I2 4 (7 + k)).toInt64) + a) + b) (by omega) (by omega) (by omega)
    refine ⟨x', ?_, ?_⟩
    · show Lm_digest_33b 0 (Lm_digest_33 0 n) I J (nn w) x (nI k) = _
      unfold Lm_digest_33b
      rw [if_neg (n7 h7), t0, bn1_s, bd_e, t1, bn1_s, bd_e, a1, bn1_s, bd_e, b1, bn1_s, bd_e, nI_1, g1]
    · show Mo_digest_37b N_m 0 (Mo_digest_37 N_m 0 n') I2 J2 x (nI k) = _
      unfold Mo_digest_37b
      rw [if_neg (n7 h7), mv_4, gd_of (tm4i (by omega)), bd_e, mv_4, s7, gd_of (tm4i (by omega)), bd_e, a2, bn1_s, bd_e, b2, bn1_s, bd_e, nI_clamp (by omega), nI_clamp (by omega), nI_1, g2]
theorem dig_101 {w : Nat → Bool} {I I2 : HI} {J J2 : HJ} (hW : RW (J (ab w 1 + 1)) (J (be w 1 + 1)) (I2 4)) : ∀ (r k n n' : Nat) (x : Int64), k + r = 5 → r < n → r < n' → ∃ x' : Int64, Lm_digest_101 0 n I J (nn w) x (nI k) = Lm_digest_127 0 256 I J (nn w) x' 0 ∧ Mo_digest_108 N_m 0 n' I2 J2 x (nI k) = Mo_digest_134 N_m 0 256 I2 J2 x' 0
  | 0, k, n + 1, n' + 1, x, hk, _, _ => by
    have e : k = 5 := by omega
    subst e
    refine ⟨x, ?_, ?_⟩
    · show Lm_digest_101b 0 (Lm_digest_101 0 n) I J (nn w) x (nI 5) = _
      unfold Lm_digest_101b
      rw [if_pos (by decide)]
    · show Mo_digest_108b N_m 0 (Mo_digest_108 N_m 0 n') I2 J2 x (nI 5) = _
      unfold Mo_digest_108b
      rw [if_pos (by decide)]
  | r + 1, k, n + 1, n' + 1, x, hk, hn, hn' => by
    have h5 : k < 5 := by omega
    obtain ⟨x', g1, g2⟩ := dig_101 (I := I) (J2 := J2) hW r (k + 1) n n' (31 * x + (inf (I2 4) k).toInt64) (by omega) (by omega) (by omega)
    refine ⟨x', ?_, ?_⟩
    · show Lm_digest_101b 0 (Lm_digest_101 0 n) I J (nn w) x (nI k) = _
      unfold Lm_digest_101b
      rw [if_neg (fun h => by rw [show (4 : Int32) = nI 4 from rfl, Int32.lt_iff_toInt_lt, nI_toInt (by omega), nI_toInt (by omega)] at h; omega), Lm_info_s hW h5, bn1_s, bd_e, nI_1, g1]
    · show Mo_digest_108b N_m 0 (Mo_digest_108 N_m 0 n') I2 J2 x (nI k) = _
      unfold Mo_digest_108b
      rw [if_neg (n5 h5), Mo_infoBy_s h5, bn1_s, bd_e, nI_1, g2]
theorem dig_127 (hw : ok_would Rel) : ∀ (r k n n' : Nat) (w : Nat → Bool) (I : HI) (J : HJ) (I2 : HI) (J2 : HJ) (x : Int64), k + r = 4 → r < n → r < n' → Body w I J I2 J2 → ∃ (w' : Nat → Bool) (I' : HI) (J' : HJ) (I2' : HI) (J2' : HJ) (x' : Int64), Lm_digest_127 0 n I J (nn w) x (nI k) = Lm_digest_127b 0 (fun _ _ _ _ _ => none) I' J' (nn w') x' (nI 4) ∧ Mo_digest_134 N_m 0 n' I2 J2 x (nI k) = Mo_digest_160 N_m 0 256 I2' J2' x' 0 ∧ Body w' I' J' I2' J2'
  | 0, k, n + 1, n' + 1, w, I, J, I2, J2, x, hk, _, _, hB => by
    have e : k = 4 := by omega
    subst e
    refine ⟨w, I, J, I2, J2, x, ?_, ?_, hB⟩
    · show Lm_digest_127b 0 (Lm_digest_127 0 n) I J (nn w) x (nI 4) = _
      unfold Lm_digest_127b
      rw [if_pos (by decide), if_pos (by decide)]
    · show Mo_digest_134b N_m 0 (Mo_digest_134 N_m 0 n') I2 J2 x (nI 4) = _
      unfold Mo_digest_134b
      rw [if_pos (by decide)]
  | r + 1, k, n + 1, n' + 1, w, I, J, I2, J2, x, hk, hn, hn', hB => by
    obtain ⟨I3, J3, N3, I4, J4, v, h1, h2, w3, h3, -, h4⟩ := hw I J (nn w) I2 J2 N_m ⟨w, rfl, rfl, hB⟩ (nI k)
    subst h3
    have h2' : Mo_unfolds N_m 0 (nI k) I2 J2 = some (I4, J4, v) := by
      unfold Mo_would Mo_would_0 at h2
      rw [Mo_in_3s, bn1_s, inb_nI (show k < 4 by omega) (by decide), if_neg b2i_t, bn3_id] at h2
      exact h2
    obtain ⟨w', I', J', I2', J2', x', g1, g2, g3⟩ := dig_127 hw r (k + 1) n n' w3 I3 J3 I4 J4 (31 * x + v.toInt64) (by omega) (by omega) (by omega) h4
    refine ⟨w', I', J', I2', J2', x', ?_, ?_, g3⟩
    · show Lm_digest_127b 0 (Lm_digest_127 0 n) I J (nn w) x (nI k) = _
      rw [← g1]
      unfold Lm_digest_127b
      rw [if_neg (show ¬ (4 : Int32) ≤ nI k from nI_ge (a := k) (b := 4) (by omega) (by decide)), h1, bn4_s, bd_e, nI_1]
    · show Mo_digest_134b N_m 0 (Mo_digest_134 N_m 0 n') I2 J2 x (nI k) = _
      unfold Mo_digest_134b
      rw [if_neg (show ¬ (4 : Int32) ≤ nI k from nI_ge (a := k) (b := 4) (by omega) (by decide)), h2', bn3_s, bd_e, nI_1, g2]
theorem react_v {w : Nat → Bool} {I I2 : HI} {J J2 : HJ} {u d q : Int32} (hu : 1 ≤ u.toInt ∧ u.toInt ≤ 9) (hd : 1 ≤ d.toInt ∧ d.toInt ≤ 9) (hq : q = 0 ∨ q = 1) (hB : Body w I J I2 J2) : ∃ (J' : HJ) (r : Int64), Lm_reactance (nn w) 0 u d q J = some (J', r) ∧ Mo_reactanceBy I2 N_m 0 u d q = some r ∧ Body w I J' I2 J2 := by
  obtain ⟨m, p, hW, hS, hL, hF, rest⟩ := id hB
  obtain ⟨J', v, h1, h2, f⟩ := reactance_ok hW u d q
  refine ⟨J', v, h1, ?_, m, p, RW_c hW (f 3 (by decide)) (f 5 (by decide)) rfl, RS_c hS rfl rfl (fun s hs => f _ (by omega)) rfl, hL, RF_c hF (f 17 (by decide)) (f 19 (by decide)) rfl, rest⟩
  unfold Mo_reactance Mo_reactance_0 at h2
  rw [in19, bn1_s, decide_eq_true hu, if_neg b2i_t, in19, bn1_s, decide_eq_true hd, if_neg b2i_t, Mo_isTwo_s, bn1_s, decide_eq_true hq, if_neg b2i_t, bn1_id] at h2
  exact h2
theorem o_digest_of (hw : ok_would Rel) : ok_digest Rel := by
  rintro I J _ I2 J2 _ ⟨w, rfl, rfl, hB⟩
  unfold Lm_digest Lm_digest_0 Mo_digest Mo_digest_0
  obtain ⟨J3, x1, h1, h2, hB1⟩ := dig_6 8 0 256 256 J2 17 (by decide) (by decide) (by decide) hB
  have h1 : Lm_digest_6 0 256 I J (nn w) 17 0 = _ := h1
  have h2 : Mo_digest_6 N_m 0 256 I2 J2 17 0 = _ := h2
  rw [h1, h2]
  obtain ⟨m, q, hW, hS, hL, hF, hBi, hM, hf, hC⟩ := id hB1
  obtain ⟨J4, f1, f2, f3⟩ := mfold_s (J := J3) hL.1 hL.2.2.1 hL.2.2.2.2.1 hL.2.2.2.2.2
  have hB2 := body_M hB1 f3
  rw [f1, bn1_s]
  obtain ⟨x2, g1, g2⟩ := dig_33 hW hL hF f2 7 0 256 256 x1 (by decide) (by decide) (by decide)
  have g1 : Lm_digest_33 0 256 I J (nn w) x1 0 = _ := g1
  have g2 : Mo_digest_37 N_m 0 256 I2 J4 x1 0 = _ := g2
  rw [g1, g2]
  obtain ⟨x3, k1, k2⟩ := dig_101 (I := I) (J2 := J4) hW 5 0 256 256 x2 (by decide) (by decide) (by decide)
  have k1 : Lm_digest_101 0 256 I J (nn w) x2 0 = _ := k1
  have k2 : Mo_digest_108 N_m 0 256 I2 J4 x2 0 = _ := k2
  rw [k1, k2]
  obtain ⟨w', I', J', I2', J2', x4, l1, l2, hB3⟩ := dig_127 hw 4 0 256 256 w I J I2 J4 x3 (by decide) (by decide) (by decide) hB2
  have l1 : Lm_digest_127 0 256 I J (nn w) x3 0 = _ := l1
  have l2 : Mo_digest_134 N_m 0 256 I2 J4 x3 0 = _ := l2
  rw [l1, l2]
  obtain ⟨Ja, ra, a1, a2, hBa⟩ := react_v (u := 1) (d := 1) (q := 0) (by decide) (by decide) (Or.inl rfl) hB3
  obtain ⟨Jb, rb, b1, b2, hBb⟩ := react_v (u := 1) (d := 1) (q := 1) (by decide) (by decide) (Or.inr rfl) hBa
  obtain ⟨Jc, rc, c1, c2, hBc⟩ := react_v (u := 3) (d := 2) (q := 0) (by decide) (by decide) (Or.inl rfl) hBb
  obtain ⟨Jd, rd, d1, d2, hBd⟩ := react_v (u := 3) (d := 2) (q := 1) (by decide) (by decide) (Or.inr rfl) hBc
  obtain ⟨m, q, hW, hS, hL, hF, hBi, hM, hf, hC⟩ := id hBd
  obtain ⟨v, v1, v2⟩ := values_ok (w := w') hL hBi
  obtain ⟨Je, I2e, J2e, e1, e2, e3⟩ := find_ok (J2 := J2') hW hM
  have hBe := body_F hBd e3
  have hq31 : I2e 0 31 = nI q := by rw [e3.2.1 0 (by decide)]; exact hM.2.2.1
  have m160 : ∀ x : Int64, Mo_digest_160 N_m 0 256 I2' J2' x 0 = Mo_digest_187 N_m 0 256 I2' J2' (31 * (31 * x + ra) + rb) 0 := by
    intro x
    show Mo_digest_160b N_m 0 (Mo_digest_160b N_m 0 (Mo_digest_160b N_m 0 (Mo_digest_160 N_m 0 253))) I2' J2' x 0 = _
    unfold Mo_digest_160b
    rw [if_neg (by decide), a2, bn1_s, bd_e, if_neg (by decide), show (0 : Int32) + 1 = 1 from by decide, b2, bn1_s, bd_e, if_pos (by decide)]
  have m187 : ∀ x : Int64, Mo_digest_187 N_m 0 256 I2' J2' x 0 = bn1 (Mo_ladderTells I2' N_m 0 (31 * (31 * x + rc) + rd)) fun r2 => bn3 (Mo_found N_m 0 I2' J2') fun I4 J5 r6 => Mo_digest_232 N_m 0 256 I4 J5 (31 * r2 + r6.toInt64) 0 := by
    intro x
    show Mo_digest_187b N_m 0 (Mo_digest_187b N_m 0 (Mo_digest_187b N_m 0 (Mo_digest_187 N_m 0 253))) I2' J2' x 0 = _
    unfold Mo_digest_187b
    rw [if_neg (by decide), c2, bn1_s, bd_e, if_neg (by decide), show (0 : Int32) + 1 = 1 from by decide, d2, bn1_s, bd_e, if_pos (by decide)]
    rfl
  unfold Lm_digest_127b
  rw [if_pos (by decide), a1, bn2_s, bd_e, b1, bn2_s, bd_e, c1, bn2_s, bd_e, d1, bn2_s, bd_e, cd_5 hL, cd_57 hL hBi, v1, bn1_s, e1, bn2_s, cd_133 hM.1 hM.2.1, bn2_s, m160, m187, md_tells (w := w') hL hBi, v2, bn1_s, bn1_s, e2, bn3_s, md_232 hM.1 hq31]
  refine ⟨_, _, _, _, _, _, rfl, ?_, w', rfl, rfl, hBe⟩
  rw [dgm_congr (r := fun k => I' (66 + k)) q (fun k hk j hj => ?_)]
  show I' (66 + k) j = if j = 0 then I2e 23 k else I2e 22 (14 * k + (j - 1))
  rw [e3.2.1 23 (by decide), e3.2.1 22 (by decide)]
  exact RM_it hM hk hj
