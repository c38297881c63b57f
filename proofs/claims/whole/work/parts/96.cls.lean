/-- the class's side of ways 0 and 1 -/
def sp (p : Nat) : Int32 := if p = 0 then 1 else -1
theorem sg_lt {p i : Nat} (hi : i < 7) : sg p i < 7 := by unfold sg; by_cases e : p = 0 <;> simp only [e, if_true, if_false] <;> omega
theorem sp_add {p t : Nat} (hp : p < 2) (ht : t + 1 < 7) : nI (sg p t) + sp p = nI (sg p (t + 1)) := by
  rcases (show p = 0 ∨ p = 1 by omega) with rfl | rfl
  · exact nI_1 t
  · show nI (6 - t) + (-1) = nI (6 - (t + 1))
    rw [show 6 - t = (6 - (t + 1)) + 1 by omega, nI_m1]
theorem sp_at {p t : Nat} {f : Nat → Int64} (hp : p < 2) (ht : t < 7) : pat f (nI (sg p t) + sp p) = if t + 1 < 7 then f (sg p (t + 1)) else 0 := by
  by_cases h : t + 1 < 7
  · rw [if_pos h, sp_add hp h, pat_nI (sg_lt h)]
  · obtain rfl : t = 6 := by omega
    rw [if_neg h]
    rcases (show p = 0 ∨ p = 1 by omega) with rfl | rfl
    · exact pat_hi (k := 7) (by decide) (by decide)
    · exact pat_neg (by decide)
theorem sp_sub {p i : Nat} {f : Nat → Int64} (hp : p < 2) (hi : i < 7) : pat f (nI (sg p i) - sp p) = if i = 0 then 0 else f (sg p (i - 1)) := by
  by_cases h : i = 0
  · subst h
    rw [if_pos rfl]
    rcases (show p = 0 ∨ p = 1 by omega) with rfl | rfl
    · exact pat_neg (by decide)
    · exact pat_hi (k := 7) (by decide) (by decide)
  · rw [if_neg h]
    have e : nI (sg p i) - sp p = nI (sg p (i - 1)) := by
      rcases (show p = 0 ∨ p = 1 by omega) with rfl | rfl
      · exact nI_sub (a := i) (b := 1) (by omega)
      · show nI (6 - i) - (-1) = nI (6 - (i - 1))
        rw [show 6 - (i - 1) = (6 - i) + 1 by omega, ← nI_1]
        generalize nI (6 - i) = y
        grind
    rw [e, pat_nI (sg_lt (by omega))]
theorem sp_eq {p a b : Nat} (hp : p < 2) (ha : a < 7) (hb : b < 7) : nI (sg p a) = nI (sg p b) + sp p ↔ a = b + 1 := by
  by_cases h : b + 1 < 7
  · rw [sp_add hp h, nI_eq (by have := sg_lt (p := p) ha; omega) (by have := sg_lt (p := p) h; omega)]
    unfold sg
    by_cases e : p = 0 <;> simp only [e, if_true, if_false] <;> omega
  · obtain rfl : b = 6 := by omega
    refine ⟨fun q => ?_, fun q => by omega⟩
    exfalso
    rcases (show p = 0 ∨ p = 1 by omega) with rfl | rfl
    · have q : nI a = nI 7 := q
      have := (nI_eq (by omega) (by omega)).mp q; omega
    · have q : nI (6 - a) = -1 := q
      have := congrArg Int32.toInt q
      rw [nI_toInt (by omega), show (-1 : Int32).toInt = -1 from rfl] at this
      omega
theorem cend {p a t : Nat} {w : Nat → Bool} {J : HJ} (hp : p < 2) (ha : isPo a) (h : tp7 (fun i => J (a + 1) (sg p i)) t) : Un_endOf J (nn w) a (nI (1 - p)) = some (nI (sg p t)) := by
  obtain ⟨h1, h2, h3⟩ := h
  rcases (show p = 0 ∨ p = 1 by omega) with rfl | rfl
  · exact (endOf_1 ha).trans (by rw [dgb_tp ⟨h1, h2, h3⟩]; rfl)
  · refine (endOf_0 ha).trans ?_
    rw [lwb_low (t := 6 - t) 7 0 (by omega) (by omega) h2 (fun i _ hi => by have : J (a + 1) (sg 1 (6 - i)) = 0 := h3 (6 - i) (by omega) (by omega); rw [show sg 1 (6 - i) = i from by unfold sg; rw [if_neg (by decide)]; omega] at this; exact this)]
    rfl
/-- what the divisor leaves, times the divisor -/
theorem nP_mul {a b : Nat → Int64} {n : Nat} (ha : ∀ k, k < 7 → lb (a k) n) (hb : ∀ k, k < 7 → lb (b k) n) (hn : n < 2 ^ 63) (hne : ∃ k, k < 7 ∧ ¬ a k = 0) : (dvs a b).toInt ≠ 0 ∧ (∀ k, k < 7 → (nrm (dvs a b) a k).toInt * (dvs a b).toInt = (a k).toInt) ∧ ∀ k, k < 7 → (nrm (dvs a b) b k).toInt * (dvs a b).toInt = (b k).toInt := by
  have nms' : ∀ j, j < 14 → nm (num a b j) := num_nm (fun k hk => lb_nm (ha k hk) hn) (fun k hk => lb_nm (hb k hk) hn)
  have glt : gcf 14 (num a b) < 2 ^ 63 := gcf_lt 14 nms'
  have gi : (lN (gcf 14 (num a b))).toInt = (gcf 14 (num a b) : Int) := pk_lT glt
  have da : ∀ k, k < 7 → gcf 14 (num a b) ∣ (a k).toInt.natAbs := by
    intro k hk
    have := (gcf_dvd 14).mp (Nat.dvd_refl (gcf 14 (num a b))) k (by omega)
    rw [show num a b k = a k from by unfold num; rw [if_pos hk]] at this
    exact this
  have db : ∀ k, k < 7 → gcf 14 (num a b) ∣ (b k).toInt.natAbs := by
    intro k hk
    have := (gcf_dvd 14).mp (Nat.dvd_refl (gcf 14 (num a b))) (7 + k) (by omega)
    rw [show num a b (7 + k) = b k from by unfold num; rw [if_neg (by omega), show 7 + k - 7 = k by omega]] at this
    exact this
  have g0 : gcf 14 (num a b) ≠ 0 := by
    intro e
    obtain ⟨k, hk, hk0⟩ := hne
    have := da k hk
    rw [e] at this
    have := Nat.eq_zero_of_zero_dvd this
    exact i64_ne.mp hk0 (by omega)
  have dd : (dvs a b).toInt = (gcf 14 (num a b) : Int) ∨ (dvs a b).toInt = -(gcf 14 (num a b) : Int) := by
    unfold dvs
    by_cases e : lead a b < 0
    · rw [if_pos e]; right
      rw [neg_toInt (lN_nm glt), gi]
    · rw [if_neg e]; left; exact gi
  have d0 : (dvs a b).toInt ≠ 0 := by omega
  have one : ∀ x : Int64, lb x n → gcf 14 (num a b) ∣ x.toInt.natAbs → (x / dvs a b).toInt * (dvs a b).toInt = x.toInt := by
    intro x hx hd
    have hdv : (dvs a b).toInt ∣ x.toInt := by
      rcases dd with e | e
      · rw [e]; exact Int.ofNat_dvd_left.mpr hd
      · rw [e]; exact Int.neg_dvd.mpr (Int.ofNat_dvd_left.mpr hd)
    obtain ⟨c, hc⟩ := hdv
    rw [dv_i hx hn, tdiv_c hc d0, hc, Int.mul_comm]
  have dne : ¬ dvs a b = 0 := i64_ne.mpr d0
  refine ⟨d0, fun k hk => ?_, fun k hk => ?_⟩
  · unfold nrm; rw [if_neg dne]; exact one _ (ha k hk) (da k hk)
  · unfold nrm; rw [if_neg dne]; exact one _ (hb k hk) (db k hk)
