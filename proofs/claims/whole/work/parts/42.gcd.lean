/-- no long but the least one: its sign can be changed -/
def nm (x : Int64) : Prop := -(2 ^ 63 : Int) < x.toInt
theorem lr (x : Int64) : -(2 ^ 63 : Int) ≤ x.toInt ∧ x.toInt < 2 ^ 63 := ⟨Int64.le_toInt x, Int64.toInt_lt x⟩
theorem neg_toInt {x : Int64} (h : nm x) : (-x).toInt = -x.toInt := by
  rw [Int64.toInt_neg]
  have := lr x
  unfold nm at h
  exact Int.bmod_eq_of_le (by omega) (by omega)
theorem abs_c {x : Int64} (h : nm x) : (if 0 < x then x else -x) = lN x.toInt.natAbs := by
  have hr := lr x
  unfold nm at h
  apply Int64.toInt_inj.mp
  rw [pk_lT (by omega)]
  by_cases h0 : 0 < x
  · rw [if_pos h0]
    have := Int64.lt_iff_toInt_lt.mp h0
    have h1 : (0 : Int64).toInt = 0 := rfl
    omega
  · rw [if_neg h0, neg_toInt h]
    have h2 : ¬ (0 : Int64).toInt < x.toInt := fun q => h0 (Int64.lt_iff_toInt_lt.mpr q)
    have h1 : (0 : Int64).toInt = 0 := rfl
    omega
theorem lN_00 : lN 0 = 0 := rfl
theorem lN_ne0 {b : Nat} (h : b < 2 ^ 63) (h0 : b ≠ 0) : ¬ lN b = 0 := fun q => h0 ((pk_lEQ h (by decide)).mp (q.trans (show (0 : Int64) = lN 0 from rfl)))
theorem n200 {k : Nat} (h : k < 200) : ¬ (200 : Int32) ≤ nI k := nI_ge (a := k) (b := 200) h (by decide)
theorem half_lt {b c m : Nat} (hc : 0 < c) (hcb : c < b) (hb : b < 2 ^ (m + 1)) : b % c < 2 ^ m := by
  have h1 : b % c < c := Nat.mod_lt _ hc
  have h2 : b % c ≤ b - c := by
    rw [Nat.mod_eq_sub_mod (Nat.le_of_lt hcb)]
    exact Nat.mod_le _ _
  have h3 : 2 ^ (m + 1) = 2 * 2 ^ m := by rw [Nat.pow_succ, Nat.mul_comm]
  omega
theorem gcd_step (a b : Nat) : Nat.gcd b (a % b) = Nat.gcd a b := by
  rw [Nat.gcd_comm a b, Nat.gcd_rec b a, Nat.gcd_comm]
theorem cd_loop {p q : Int64} : ∀ (m a b k n : Nat), a < 2 ^ 63 → b < 2 ^ 63 → b < 2 ^ m → k + 2 * m < 200 → 2 * m < n → Lm_commonDivisor_15 p q n (lN a) (lN b) (nI k) = some (lN (Nat.gcd a b)) := by
  intro m
  induction m with
  | zero =>
    intro a b k n ha hb hm hk hn
    obtain ⟨n, rfl⟩ : ∃ j, n = j + 1 := ⟨n - 1, by omega⟩
    have hb0 : b = 0 := by simp at hm; exact hm
    subst hb0
    show Lm_commonDivisor_15b p q (Lm_commonDivisor_15 p q n) _ _ _ = _
    unfold Lm_commonDivisor_15b
    rw [if_neg (n200 (by omega)), if_pos lN_00, Nat.gcd_zero_right]
  | succ m ih =>
    intro a b k n ha hb hm hk hn
    obtain ⟨n, rfl⟩ : ∃ j, n = j + 1 + 1 := ⟨n - 2, by omega⟩
    show Lm_commonDivisor_15b p q (Lm_commonDivisor_15 p q (n + 1)) _ _ _ = _
    unfold Lm_commonDivisor_15b
    rw [if_neg (n200 (by omega))]
    by_cases hb0 : b = 0
    · subst hb0
      rw [if_pos lN_00, Nat.gcd_zero_right]
    · have hbp : 0 < b := by omega
      rw [if_neg (lN_ne0 hb hb0), gd_of (decide_eq_true (lN_ne0 hb hb0)), bd_e, pk_lRem ha hbp hb, nI_1]
      have hc : a % b < b := Nat.mod_lt _ hbp
      show Lm_commonDivisor_15b p q (Lm_commonDivisor_15 p q n) _ _ _ = _
      unfold Lm_commonDivisor_15b
      rw [if_neg (n200 (by omega))]
      by_cases hc0 : a % b = 0
      · rw [hc0, if_pos lN_00, ← gcd_step a b, hc0, Nat.gcd_zero_right]
      · rw [if_neg (lN_ne0 (by omega) hc0), gd_of (decide_eq_true (lN_ne0 (by omega) hc0)), bd_e, pk_lRem hb (by omega) (by omega), nI_1]
        have h9 := half_lt (m := m) (by omega) hc hm
        have h8 : b % (a % b) < a % b := Nat.mod_lt _ (by omega)
        rw [ih (a % b) (b % (a % b)) (k + 1 + 1) n (by omega) (by omega) h9 (by omega) (by omega), gcd_step b (a % b), gcd_step a b]
/-- the greatest common divisor, as a long -/
def gl (x y : Int64) : Int64 := lN (Nat.gcd x.toInt.natAbs y.toInt.natAbs)
theorem abs_lt {x : Int64} (h : nm x) : x.toInt.natAbs < 2 ^ 63 := by
  have := lr x
  unfold nm at h
  omega
theorem Lm_commonDivisor_s {x y : Int64} (hx : nm x) (hy : nm y) : Lm_commonDivisor x y = some (gl x y) := by
  unfold Lm_commonDivisor Lm_commonDivisor_0
  rw [bd_e, bd_e, abs_c hx, abs_c hy]
  exact cd_loop 63 _ _ 0 256 (abs_lt hx) (abs_lt hy) (abs_lt hy) (by decide) (by decide)
theorem Mo_15 {p q : Int64} : ∀ n x y k, Mo_divisor_33 p q n x y k = Lm_commonDivisor_15 p q n x y k := by
  intro n
  induction n with
  | zero => intro x y k; rfl
  | succ n ih =>
    intro x y k
    show Mo_divisor_33b p q (Mo_divisor_33 p q n) x y k = Lm_commonDivisor_15b p q (Lm_commonDivisor_15 p q n) x y k
    unfold Mo_divisor_33b Lm_commonDivisor_15b
    simp only [ih]
theorem abs_m {x : Int64} (h : nm x) : (if 0 ≤ x then x else 0 - x) = lN x.toInt.natAbs := by
  have hr := lr x
  have e0 : (0 : Int64) - x = -x := by simp
  rw [e0]
  have hn := h
  unfold nm at h
  apply Int64.toInt_inj.mp
  rw [pk_lT (by omega)]
  have h1 : (0 : Int64).toInt = 0 := rfl
  by_cases h0 : 0 ≤ x
  · rw [if_pos h0]
    have := Int64.le_iff_toInt_le.mp h0
    omega
  · rw [if_neg h0, neg_toInt hn]
    have h2 : ¬ (0 : Int64).toInt ≤ x.toInt := fun q => h0 (Int64.le_iff_toInt_le.mpr q)
    omega
theorem Mo_divisor_s {x y : Int64} (hx : nm x) (hy : nm y) : Mo_divisor x y = some (gl x y) := by
  have e : Mo_divisor x y = Mo_divisor_33 x y 256 (if 0 ≤ x then x else 0 - x) (if 0 ≤ y then y else 0 - y) 0 := by
    unfold Mo_divisor Mo_divisor_0 Mo_divisor_13 Mo_divisor_28
    by_cases h1 : 0 ≤ x <;> by_cases h2 : 0 ≤ y <;> simp only [h1, h2, if_true, if_false]
  rw [e, abs_m hx, abs_m hy, Mo_15]
  exact cd_loop 63 _ _ 0 256 (abs_lt hx) (abs_lt hy) (abs_lt hy) (by decide) (by decide)
