def vam (c : Nat → Int64) (U D : Int64) : Int64 := (-U) * ((-U) * ((-U) * ((-U) * 0 + 1 * c 3) + 1 * D * c 2) + 1 * D * D * c 1) + 1 * D * D * D * c 0
theorem vam_st {a k n : Nat} {w : Nat → Bool} {J : HJ} {U D x t : Int64} (h : isPo a) (hk : k < 7) : Po_valueAtMinus_9 J (nn w) a U D (n + 1) x t (nI k) = Po_valueAtMinus_9 J (nn w) a U D n ((-U) * x + t * J (a + 1) k) (t * D) (nI k + (-1)) := by
  show Po_valueAtMinus_9b J (nn w) a U D (Po_valueAtMinus_9 J (nn w) a U D n) x t (nI k) = _
  unfold Po_valueAtMinus_9b
  rw [if_neg (nI_pos (by omega)), po_ra h, gd_of (by rw [po_ln h]; exact inb_nI hk (by decide)), bd_e, bd_e, nI_clamp (by omega)]
theorem Po_valueAtMinus_s {a : Nat} {w : Nat → Bool} {J : HJ} {U D : Int64} (h : isPo a) : Po_valueAtMinus J (nn w) a U D = some (vam (J (a + 1)) U D) := by
  unfold Po_valueAtMinus Po_valueAtMinus_0
  rw [show (3 : Int32) = nI 3 from rfl, vam_st h (by decide), nI_m1, vam_st h (by decide), nI_m1, vam_st h (by decide), nI_m1, vam_st h (by decide)]
  show Po_valueAtMinus_9b J (nn w) a U D (Po_valueAtMinus_9 J (nn w) a U D 251) _ _ (nI 0 + (-1)) = _
  unfold Po_valueAtMinus_9b
  rw [if_pos (by decide)]
  rfl
def pw (x : Int64) : Nat → Int64
  | 0 => 1
  | k + 1 => pw x k * x
theorem Mo_power_s {x : Int64} {k : Nat} (hk : k < 100) : Mo_power x (nI k) = some (pw x k) := by
  unfold Mo_power Mo_power_0
  refine up_loop (fun n S y => Mo_power_5 x (nI k) n S y) (fun j => pw x j) (some (pw x k)) k (fun n j hj => ?_) (fun n => ?_) 256 0 (by omega) (by omega)
  · show Mo_power_5b x (nI k) (Mo_power_5 x (nI k) n) _ (nI j) = _
    unfold Mo_power_5b
    rw [if_neg (nI_ge hj (by omega)), bd_e, nI_1]
    rfl
  · show Mo_power_5b x (nI k) (Mo_power_5 x (nI k) n) _ (nI k) = _
    unfold Mo_power_5b
    rw [if_pos (Int32.le_refl _)]
def tt (f : Nat → Int64) (x y : Int64) (k : Nat) : Int64 := if (k / 2) % 2 = 0 then f k * pw x k * pw y (6 - k) else 0 - f k * pw x k * pw y (6 - k)
def tv (f : Nat → Int64) (x y : Int64) : Nat → Int64
  | 0 => 0
  | k + 1 => tv f x y k + tt f x y k
theorem d4 : ∀ k, k < 7 → ((nI k / 2 - nI k / 2 / 2 * 2 = 0) ↔ (k / 2) % 2 = 0) := by decide +kernel
theorem Mo_turnedValue_s {I : HI} {p : Nat} {u d : Int32} (hp : p < 2) : Mo_turnedValue I N_m 0 (nI p) u d = some (tv (fun k => (I 4 (7 * p + k)).toInt64) u.toInt64 d.toInt64 7) := by
  unfold Mo_turnedValue Mo_turnedValue_0
  refine up_loop (fun n S y => Mo_turnedValue_6 I N_m 0 (nI p) u d n S y) (fun k => tv (fun k => (I 4 (7 * p + k)).toInt64) u.toInt64 d.toInt64 k) _ 7 (fun n k hk => ?_) (fun n => ?_) 256 0 (by decide) (by decide)
  · show Mo_turnedValue_6b I N_m 0 (nI p) u d (Mo_turnedValue_6 I N_m 0 (nI p) u d n) _ (nI k) = Mo_turnedValue_6 I N_m 0 (nI p) u d n (tv (fun k => (I 4 (7 * p + k)).toInt64) u.toInt64 d.toInt64 k + tt (fun k => (I 4 (7 * p + k)).toInt64) u.toInt64 d.toInt64 k) (nI (k + 1))
    unfold Mo_turnedValue_6b Mo_turnedValue_67 tt
    rw [if_neg (n7 hk), mv_4, i7, gd_of (tm4i (by omega)), Mo_power_s (by omega), bn1_s, show (6 : Int32) - nI k = nI (6 - k) from nI_sub (a := 6) (by omega), Mo_power_s (by omega), bn1_s, bd_e, nI_clamp (by omega), nI_1]
    by_cases e : (k / 2) % 2 = 0
    · rw [if_pos e, if_pos ((d4 k hk).mpr e), bd_e]
    · rw [if_neg e, if_neg (fun q => e ((d4 k hk).mp q)), bd_e]
  · show Mo_turnedValue_6b I N_m 0 (nI p) u d (Mo_turnedValue_6 I N_m 0 (nI p) u d n) _ (nI 7) = _
    unfold Mo_turnedValue_6b
    rw [if_pos (by decide)]
theorem tv_x (f : Nat → Int64) (x y : Int64) : tv f x y 7 = 0 + f 0 * 1 * (1 * y * y * y * y * y * y) + f 1 * (1 * x) * (1 * y * y * y * y * y) + (0 - f 2 * (1 * x * x) * (1 * y * y * y * y)) + (0 - f 3 * (1 * x * x * x) * (1 * y * y * y)) + f 4 * (1 * x * x * x * x) * (1 * y * y) + f 5 * (1 * x * x * x * x * x) * (1 * y) + (0 - f 6 * (1 * x * x * x * x * x * x) * 1) := rfl
theorem vam_ev {c f : Nat → Int64} {x y : Int64} (h0 : c 0 = f 0) (h1 : c 1 = f 2) (h2 : c 2 = f 4) (h3 : c 3 = f 6) (z1 : f 1 = 0) (z3 : f 3 = 0) (z5 : f 5 = 0) : vam c (x * x) (y * y) * y = tv f x y 7 * y := by
  rw [tv_x, z1, z3, z5]
  unfold vam
  rw [h0, h1, h2, h3]
  grind
theorem vam_od {c f : Nat → Int64} {x y : Int64} (h0 : c 0 = f 1) (h1 : c 1 = f 3) (h2 : c 2 = f 5) (h3 : c 3 = 0) (z0 : f 0 = 0) (z2 : f 2 = 0) (z4 : f 4 = 0) (z6 : f 6 = 0) : vam c (x * x) (y * y) * x = tv f x y 7 * y := by
  rw [tv_x, z0, z2, z4, z6]
  unfold vam
  rw [h0, h1, h2, h3]
  grind
theorem lb_neg {x : Int64} {n : Nat} (h : lb x n) (hn : n < 2 ^ 63) : lb (0 - x) n := by
  unfold lb at h ⊢
  rw [Int64.toInt_sub, show (0 : Int64).toInt = 0 from rfl, Int.bmod_eq_of_le (by omega) (by omega)]
  omega
theorem lb_pw {x : Int64} (h : lb x 9) : ∀ k, k ≤ 6 → lb (pw x k) (9 ^ k)
  | 0, _ => Nat.le_refl 1
  | k + 1, hk => by
    have ih := lb_pw h k (by omega)
    have e : 9 ^ (k + 1) ≤ 9 ^ 6 := Nat.pow_le_pow_right (by decide) hk
    have c : 9 ^ 6 < 2 ^ 63 := by decide
    rw [Nat.pow_succ] at e ⊢
    exact lb_mul ih h (by omega)
theorem lb_tt {f : Nat → Int64} {x y : Int64} {k : Nat} (hk : k < 7) (hx : lb x 9) (hy : lb y 9) (hf : lb (f k) 9) : lb (tt f x y k) (9 * 9 ^ 6) := by
  have h1 := lb_pw hx k (by omega)
  have h2 := lb_pw hy (6 - k) (by omega)
  have e : 9 * 9 ^ k * 9 ^ (6 - k) = 9 * 9 ^ 6 := by rw [Nat.mul_assoc, ← Nat.pow_add, show k + (6 - k) = 6 by omega]
  have e1 : 9 * 9 ^ k ≤ 9 * 9 ^ 6 := Nat.mul_le_mul_left _ (Nat.pow_le_pow_right (by decide) (by omega))
  have c : 9 * 9 ^ 6 < 2 ^ 63 := by decide
  have h3 : lb (f k * pw x k * pw y (6 - k)) (9 * 9 ^ 6) := by
    rw [← e]
    exact lb_mul (lb_mul hf h1 (by omega)) h2 (by omega)
  unfold tt
  split
  · exact h3
  · exact lb_neg h3 c
theorem lb_tv {f : Nat → Int64} {x y : Int64} (hx : lb x 9) (hy : lb y 9) (hf : ∀ k, k < 7 → lb (f k) 9) : ∀ k, k ≤ 7 → lb (tv f x y k) (k * (9 * 9 ^ 6))
  | 0, _ => lb_0
  | k + 1, hk => by
    have ih := lb_tv hx hy hf k (by omega)
    have h := lb_tt (show k < 7 by omega) hx hy (hf k (by omega))
    have c : 7 * (9 * 9 ^ 6) < 2 ^ 63 := by decide
    have e : k * (9 * 9 ^ 6) + 9 * 9 ^ 6 = (k + 1) * (9 * 9 ^ 6) := by rw [Nat.add_mul, Nat.one_mul]
    have e1 : (k + 1) * (9 * 9 ^ 6) ≤ 7 * (9 * 9 ^ 6) := Nat.mul_le_mul_right _ hk
    show lb (tv f x y k + tt f x y k) _
    rw [← e]
    exact lb_add ih h (by omega)
