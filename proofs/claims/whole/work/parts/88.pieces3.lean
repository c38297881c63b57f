theorem Mo_makes_s {I : HI} {p : Int32} {m : Nat} (hm : m < 8) (hc : I 0 8 = nI m) : Mo_makes N_m 0 p I = some (va_up I 6 (wrs (5 * m) 5 (I 6) (arow p 0 0 0 0))) := by
  unfold Mo_makes Mo_makes_0
  rw [mv_7, hc, i5', gd_of (tm6 (by omega)), bd_e, nI_clamp (by omega)]
  have st : ∀ n k, 1 ≤ k → k < 5 → Mo_makes_14 N_m 0 p (n + 1) (va_up I 6 (wrs (5 * m) k (I 6) (arow p 0 0 0 0))) (nI k) = Mo_makes_14 N_m 0 p n (va_up I 6 (wrs (5 * m) (k + 1) (I 6) (arow p 0 0 0 0))) (nI (k + 1)) := by
    intro n k h1 hk
    show Mo_makes_14b N_m 0 p (Mo_makes_14 N_m 0 p n) _ (nI k) = _
    unfold Mo_makes_14b
    have ez : arow p 0 0 0 0 k = 0 := by rcases (show k = 1 ∨ k = 2 ∨ k = 3 ∨ k = 4 by omega) with rfl | rfl | rfl | rfl <;> rfl
    rw [if_neg (n5 hk), mv_7, va_up_of (show (0 : Nat) ≠ 6 by decide), hc, i5, gd_of (tm6 (by omega)), bd_e, nI_clamp (by omega), up2_va, nI_1, ← wrs_s (k := k), ez]
  have e1 : up2 I 6 (5 * m) p = va_up I 6 (wrs (5 * m) 1 (I 6) (arow p 0 0 0 0)) := by
    rw [up2_eq, ← wrs_s, wrs_0]
    rfl
  rw [e1, show (1 : Int32) = nI 1 from rfl, st 255 1 (by decide) (by decide), st 254 2 (by decide) (by decide), st 253 3 (by decide) (by decide), st 252 4 (by decide) (by decide)]
  show Mo_makes_14b N_m 0 p (Mo_makes_14 N_m 0 p 251) _ (nI 5) = _
  unfold Mo_makes_14b
  rw [if_pos (by decide)]
theorem Mo_lays_s {I : HI} {J : HJ} {m o : Nat} (hm : m < 8) (ho : o < 4) (hc : I 0 8 = nI m) : Mo_lays J N_m 0 (nI o) I = some (va_up I 6 (va_up (va_up (I 6) (5 * m + o) (J 0 9).toInt32) (5 * m + o + 1) (J 0 10).toInt32)) := by
  unfold Mo_lays Mo_lays_0
  rw [mv_7, hc, i5, gd_of (tm6 (by omega)), bd_e, mv_7, up2_of (show (0 : Nat) ≠ 6 by decide), hc, i5, show nI (5 * m + o) + 1 = nI (5 * m + o + 1) from nI_add _ 1, gd_of (tm6 (by omega)), bd_e, nI_clamp (by omega), nI_clamp (by omega), up2_eq (f := I), up2_va]
theorem lay_1 {f : Nat → Int32} {m : Nat} {p u v : Int32} : va_up (va_up (wrs (5 * m) 5 f (arow p 0 0 0 0)) (5 * m + 1) u) (5 * m + 1 + 1) v = wrs (5 * m) 5 f (arow p u v 0 0) := by
  funext j
  by_cases h : 5 * m ≤ j ∧ j < 5 * m + 5
  · obtain ⟨i, rfl, hi⟩ : ∃ i, j = 5 * m + i ∧ i < 5 := ⟨j - 5 * m, by omega, by omega⟩
    rw [wrs_in h, show 5 * m + i - 5 * m = i by omega]
    by_cases e2 : i = 2
    · subst e2; rw [show 5 * m + 1 + 1 = 5 * m + 2 by omega, va_up_at]; rfl
    · rw [va_up_of (by omega)]
      by_cases e1 : i = 1
      · subst e1; rw [va_up_at]; rfl
      · rw [va_up_of (by omega), wrs_in h, show 5 * m + i - 5 * m = i by omega]
        rcases (show i = 0 ∨ i = 3 ∨ i = 4 by omega) with rfl | rfl | rfl <;> rfl
  · rw [va_up_of (by omega), va_up_of (by omega), wrs_out h, wrs_out h]
theorem lay_3 {f : Nat → Int32} {m : Nat} {p u v x y : Int32} : va_up (va_up (wrs (5 * m) 5 f (arow p x y 0 0)) (5 * m + 3) u) (5 * m + 3 + 1) v = wrs (5 * m) 5 f (arow p x y u v) := by
  funext j
  by_cases h : 5 * m ≤ j ∧ j < 5 * m + 5
  · obtain ⟨i, rfl, hi⟩ : ∃ i, j = 5 * m + i ∧ i < 5 := ⟨j - 5 * m, by omega, by omega⟩
    rw [wrs_in h, show 5 * m + i - 5 * m = i by omega]
    by_cases e2 : i = 4
    · subst e2; rw [show 5 * m + 3 + 1 = 5 * m + 4 by omega, va_up_at]; rfl
    · rw [va_up_of (by omega)]
      by_cases e1 : i = 3
      · subst e1; rw [va_up_at]; rfl
      · rw [va_up_of (by omega), wrs_in h, show 5 * m + i - 5 * m = i by omega]
        rcases (show i = 0 ∨ i = 1 ∨ i = 2 by omega) with rfl | rfl | rfl <;> rfl
  · rw [va_up_of (by omega), va_up_of (by omega), wrs_out h, wrs_out h]
/-- a handy value: both numbers at most 99 -/
theorem handy_vok {a b : Int64} (h1 : 0 < a.toInt) (h2 : a.toInt ≤ 99) (h3 : 0 < b.toInt) (h4 : b.toInt ≤ 99) : vok a.toInt32 b.toInt32 ∧ ¬ a.toInt32 = 0 := by
  have t : ∀ x : Int64, 0 < x.toInt → x.toInt ≤ 99 → x.toInt32.toInt = x.toInt := by
    intro x g1 g2
    rw [Int64.toInt_toInt32, Int.bmod_eq_of_le (by omega) (by omega)]
  refine ⟨Or.inr ?_, fun q => ?_⟩
  · rw [t a h1 h2, t b h3 h4]; omega
  · have := congrArg Int32.toInt q
    rw [t a h1 h2, i32_0] at this
    omega
theorem Mo_isHandy_s {J : HJ} : Mo_isHandy J 0 = some (b2i (decide ((J 0 9).toInt ≤ 99 ∧ (J 0 10).toInt ≤ 99))) := by
  unfold Mo_isHandy Mo_isHandy_0
  have e : (99 : Int64).toInt = 99 := rfl
  by_cases h1 : (99 : Int64) < J 0 9
  · rw [if_pos h1, decide_eq_false (fun q => by have := lt_i.mp h1; rw [e] at this; omega)]; rfl
  · rw [if_neg h1]
    by_cases h2 : (99 : Int64) < J 0 10
    · rw [if_pos h2, decide_eq_false (fun q => by have := lt_i.mp h2; rw [e] at this; omega)]; rfl
    · rw [if_neg h2, decide_eq_true]
      · rfl
      · have g1 : ¬ (99 : Int) < (J 0 9).toInt := fun q => h1 (lt_i.mpr q)
        have g2 : ¬ (99 : Int) < (J 0 10).toInt := fun q => h2 (lt_i.mpr q)
        omega
theorem Fr_isHandy_s {J : HJ} {a : Nat} (h0 : 0 < (J a 0).toInt) : Fr_isHandy J a = some (b2i (decide ((J a 0).toInt ≤ 99 ∧ (J a 1).toInt ≤ 99))) := by
  unfold Fr_isHandy Fr_isHandy_0
  have e : (99 : Int64).toInt = 99 := rfl
  rw [if_neg (fun q => by have := le_i.mp q; rw [show (0 : Int64).toInt = 0 from rfl] at this; omega)]
  by_cases h1 : (99 : Int64) < J a 0
  · rw [if_pos h1, decide_eq_false (fun q => by have := lt_i.mp h1; rw [e] at this; omega)]; rfl
  · rw [if_neg h1]
    by_cases h2 : (99 : Int64) < J a 1
    · rw [if_pos h2, decide_eq_false (fun q => by have := lt_i.mp h2; rw [e] at this; omega)]; rfl
    · rw [if_neg h2, decide_eq_true]
      · rfl
      · have g1 : ¬ (99 : Int) < (J a 0).toInt := fun q => h1 (lt_i.mpr q)
        have g2 : ¬ (99 : Int) < (J a 1).toInt := fun q => h2 (lt_i.mpr q)
        omega
