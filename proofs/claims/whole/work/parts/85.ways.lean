/-- what a way leaves as it was -/
def fU (w w' : Nat → Bool) (I I' : HI) (J J' : HJ) (I2 I2' : HI) (J2 J2' : HJ) : Prop := (w' 1 = w 1 ∧ w' 15 = w 15) ∧ (∀ a, a < 30 ∨ 55 < a → I' a = I a) ∧ (∀ a, a < 40 ∨ 52 < a → J' a = J a) ∧ (∀ a, a ≠ 0 → a ≠ 6 → a ≠ 13 → a ≠ 14 → I2' a = I2 a) ∧ (∀ k, k ≠ 8 → k ≠ 21 → I2' 0 k = I2 0 k) ∧ (∀ a, a ≠ 0 → a < 7 ∨ 15 < a → J2' a = J2 a) ∧ RC (I2' 13) (I2' 14) (I2' 0 21)
theorem body_U {w w' : Nat → Bool} {I I' I2 I2' : HI} {J J' J2 J2' : HJ} (h : Body w I J I2 J2) (f : fU w w' I I' J J' I2 I2' J2 J2') : Body w' I' J' I2' J2' := by
  obtain ⟨m, q, hW, hS, hL, hF, hB, hM, hf, hC⟩ := h
  obtain ⟨⟨w1, w15⟩, f1, f2, f3, f4, f5, f6⟩ := f
  have e1 : ab w' 1 = ab w 1 ∧ be w' 1 = be w 1 := by unfold ab be; rw [w1]; exact ⟨rfl, rfl⟩
  have e15 : ab w' 15 = ab w 15 ∧ be w' 15 = be w 15 := by unfold ab be; rw [w15]; exact ⟨rfl, rfl⟩
  have e5 : I2' 5 = I2 5 := f3 5 (by decide) (by decide) (by decide) (by decide)
  refine ⟨m, q, ?_, RS_c hS (f1 88 (by decide)) (f3 1 (by decide) (by decide) (by decide) (by decide)) (fun s hs => f2 _ (by omega)) (f5 2 (by decide) (by decide)), RL_c hL (f1 6 (by decide)) (fun k hk => f1 _ (by omega)) (f4 6 (by decide) (by decide)) e5, ?_, ?_, RM_c hM (f1 64 (by decide)) (fun k hk => f1 _ (by omega)) (f4 31 (by decide) (by decide)) (f3 22 (by decide) (by decide) (by decide) (by decide)) (f3 23 (by decide) (by decide) (by decide) (by decide)), by rw [f1 0 (by decide), f4 0 (by decide) (by decide)]; exact hf, f6⟩
  · rw [e1.1, e1.2]
    exact RW_c hW (f2 3 (by decide)) (f2 5 (by decide)) (f3 4 (by decide) (by decide) (by decide) (by decide))
  · rw [e15.1, e15.2]
    exact RF_c hF (f2 17 (by decide)) (f2 19 (by decide)) e5
  · rw [e5]
    exact RB_c hB hL.2.2.2.2.2 (f1 56 (by decide)) (fun k hk => f1 _ (by omega))
/-- what is still to be shown of one way -/
def wayS (k : Nat) : Prop := ∀ (w : Nat → Bool) (I : HI) (J : HJ) (I2 : HI) (J2 : HJ), RW (J (ab w 1 + 1)) (J (be w 1 + 1)) (I2 4) → RC (I2 13) (I2 14) (I2 0 21) → lawf (zi (I2 4) 0) (zi (I2 4) 1) = true → ∃ (w' : Nat → Bool) (I' : HI) (J' : HJ) (I2' : HI) (J2' : HJ) (r : Int32), (if 2 ≤ k then Un_divideByPoles 30 1 (nI (k - 2)) I J (nn w) else Un_divideOn 30 1 (nI (1 - k)) I J (nn w)) = some (I', J', nn w', r) ∧ (if 2 ≤ k then Mo_byRoots N_m 0 (nI k) I2 J2 else Mo_divides N_m 0 (nI k) I2 J2) = some (I2', J2', r) ∧ fU w w' I I' J J' I2 I2' J2 J2' ∧ (0 ≤ r → ∃ m, RL m (I' 31 1) (I2' 0 8) (fun k => I' (33 + k)) (I2' 6))
theorem wouldS_of (h : ∀ k, k < 4 → wayS k) : wouldS := by
  intro w I J I2 J2 hB x0
  obtain ⟨m, q, hW, hS, hL, hF, hBi, hM, hf, hC⟩ := id hB
  unfold Lm_would Lm_would_0 Mo_would Mo_would_0
  rw [Mo_in_3s, bn1_s]
  rcases inb_cases x0 (n := 4) (by decide) with hb | ⟨k, hk, rfl⟩
  · refine ⟨w, I, J, I2, J2, -2, ?_, by rw [hb, if_pos b2i_f], hB, fun h => absurd h (by decide)⟩
    rcases inb_no (by decide) hb with h | h
    · rw [if_pos h]
    · by_cases h0 : x0 < 0
      · rw [if_pos h0]
      · rw [if_neg h0, if_neg (show ¬ x0 < (4 : Int32) from Int32.not_lt.mpr h)]
  · rw [inb_nI hk (by decide), if_neg b2i_t, if_neg (nI_pos (by omega)), if_pos (show nI k < (4 : Int32) from nI_lt (b := 4) hk (by decide)), nv_0_0, Pa_isLawful_s pa_1, bn1_s, bn3_id]
    unfold Mo_unfolds Mo_unfolds_0
    rw [Mo_isLawful_s, bn1_s, lawf_congr (fun j hj => RW_za hW hj) (fun j hj => RW_zb hW hj)]
    cases hl : lawf (zi (I2 4) 0) (zi (I2 4) 1) with
    | false =>
      rw [if_pos b2i_f, if_pos b2i_f]
      exact ⟨w, I, J, I2, J2, -3, rfl, rfl, hB, fun h => absurd h (by decide)⟩
    | true =>
      obtain ⟨w', I', J', I2', J2', r, h1, h2, h3, h4⟩ := h k hk w I J I2 J2 hW hC hl
      rw [if_neg b2i_t, if_neg b2i_t, bn3_id, bn3_id]
      refine ⟨w', I', J', I2', J2', r, ?_, ?_, body_U hB h3, h4⟩
      · rcases (show k = 0 ∨ k = 1 ∨ k = 2 ∨ k = 3 by omega) with rfl | rfl | rfl | rfl
        · rw [if_neg (by decide)] at h1
          have h1' : Un_divideOn 30 1 1 I J (nn w) = some (I', J', nn w', r) := h1
          rw [if_neg (by decide), nv_0_3, nv_0_0, if_pos (by decide)]
          unfold Lm_would_47
          rw [h1', bn4_s]
        · rw [if_neg (by decide)] at h1
          have h1' : Un_divideOn 30 1 0 I J (nn w) = some (I', J', nn w', r) := h1
          rw [if_neg (by decide), nv_0_3, nv_0_0, if_neg (by decide)]
          unfold Lm_would_47
          rw [h1', bn4_s]
        · rw [if_pos (by decide)] at h1
          have h1' : Un_divideByPoles 30 1 0 I J (nn w) = some (I', J', nn w', r) := h1
          rw [if_pos (by decide), nv_0_3, nv_0_0, if_pos (by decide)]
          unfold Lm_would_69
          rw [h1', bn4_s]
        · rw [if_pos (by decide)] at h1
          have h1' : Un_divideByPoles 30 1 1 I J (nn w) = some (I', J', nn w', r) := h1
          rw [if_pos (by decide), nv_0_3, nv_0_0, if_neg (by decide)]
          unfold Lm_would_69
          rw [h1', bn4_s]
      · by_cases h2k : 2 ≤ k
        · rw [if_pos h2k] at h2
          rw [if_pos (show (2 : Int32) ≤ nI k from nI_le (a := 2) h2k (by omega))]; exact h2
        · rw [if_neg h2k] at h2
          rw [if_neg (show ¬ (2 : Int32) ≤ nI k from nI_ge (a := k) (b := 2) (by omega) (by decide))]; exact h2
