theorem dv_i {a c : Int64} {n : Nat} (ha : lb a n) (hn : n < 2 ^ 63) : (a / c).toInt = a.toInt.tdiv c.toInt := by
  have e := tdiv_le a.toInt c.toInt
  unfold lb at ha
  rw [Int64.toInt_div, Int.bmod_eq_of_le (by omega) (by omega)]
theorem mul_i {x y : Int64} {a b : Nat} (hx : lb x a) (hy : lb y b) (h : a * b < 2 ^ 63) : (x * y).toInt = x.toInt * y.toInt := by
  have e : (x.toInt * y.toInt).natAbs ≤ a * b := by rw [Int.natAbs_mul]; exact Nat.mul_le_mul hx hy
  rw [Int64.toInt_mul, Int.bmod_eq_of_le (by omega) (by omega)]
theorem neg_i {x : Int64} {n : Nat} (h : lb x n) (hn : n < 2 ^ 63) : (0 - x).toInt = -x.toInt := by
  unfold lb at h
  rw [Int64.toInt_sub, show (0 : Int64).toInt = 0 from rfl, Int.bmod_eq_of_le (by omega) (by omega)]
  omega
def fg (a b : Int64) : Int64 := if 0 ≤ b then gl a b else 0 - gl a b
theorem le_i {a b : Int64} : a ≤ b ↔ a.toInt ≤ b.toInt := Int64.le_iff_toInt_le
theorem lt_i {a b : Int64} : a < b ↔ a.toInt < b.toInt := Int64.lt_iff_toInt_lt
theorem tdiv_c {b g c : Int} (h : b = g * c) (hg : g ≠ 0) : b.tdiv g = c := by
  rw [h]; exact Int.mul_tdiv_cancel_left _ hg
theorem fr_scale {p n : Nat} {a b y : Int64} {J : HJ} (ha : lb a n) (hb : lb b n) (hy : lb y 9) (hy1 : 1 ≤ y.toInt) (hn : n * 9 < 2 ^ 62) (hb0 : ¬ b = 0) : Fr_put p (a * y) (b * y) J = some (up2 (up2 J p 0 (a / fg a b)) p 1 (b / fg a b)) := by
  have n63 : n < 2 ^ 63 := by omega
  have lay : lb (a * y) (n * 9) := lb_mul ha hy (by omega)
  have lby : lb (b * y) (n * 9) := lb_mul hb hy (by omega)
  have ia := mul_i ha hy (by omega)
  have ib := mul_i hb hy (by omega)
  have bne : b.toInt ≠ 0 := fun q => hb0 (Int64.toInt_inj.mp (q.trans rfl))
  obtain ⟨Y, hY⟩ : ∃ Y : Nat, y.toInt = (Y : Int) := ⟨y.toInt.toNat, by omega⟩
  have hY1 : 0 < Y := by omega
  have gpos : 0 < Nat.gcd a.toInt.natAbs b.toInt.natAbs := Nat.gcd_pos_of_pos_right _ (by omega)
  have gle : Nat.gcd a.toInt.natAbs b.toInt.natAbs ≤ n := Nat.le_trans (Nat.gcd_le_right _ (by omega)) hb
  have eg : Nat.gcd (a * y).toInt.natAbs (b * y).toInt.natAbs = Nat.gcd a.toInt.natAbs b.toInt.natAbs * Y := by
    rw [ia, ib, hY, Int.natAbs_mul, Int.natAbs_mul, Int.natAbs_natCast, Nat.gcd_mul_right]
  have eY9 : Y ≤ 9 := by unfold lb at hy; omega
  have gY : Nat.gcd a.toInt.natAbs b.toInt.natAbs * Y ≤ n * 9 := Nat.mul_le_mul gle eY9
  have r1 : gl (a * y) (b * y) = lN (Nat.gcd a.toInt.natAbs b.toInt.natAbs * Y) := by unfold gl; rw [eg]
  have r1p : 0 < Nat.gcd a.toInt.natAbs b.toInt.natAbs * Y := Nat.mul_pos gpos hY1
  have r1i : (lN (Nat.gcd a.toInt.natAbs b.toInt.natAbs * Y)).toInt = (Nat.gcd a.toInt.natAbs b.toInt.natAbs : Int) * Y := by
    rw [pk_lT (by omega)]; exact Int.natCast_mul _ _
  have gi : (gl a b).toInt = (Nat.gcd a.toInt.natAbs b.toInt.natAbs : Int) := pk_lT (by omega)
  have lg : lb (gl a b) n := by unfold lb; rw [gi]; exact gle
  have r1n : ¬ lN (Nat.gcd a.toInt.natAbs b.toInt.natAbs * Y) = 0 := lN_ne0 (by omega) (by omega)
  have by0 : ¬ b * y = 0 := fun q => by
    have := congrArg Int64.toInt q
    rw [ib, show (0 : Int64).toInt = 0 from rfl] at this
    rcases Int.mul_eq_zero.mp this with h | h
    · exact bne h
    · omega
  have qa : (a * y / lN (Nat.gcd a.toInt.natAbs b.toInt.natAbs * Y)).toInt = a.toInt.tdiv (Nat.gcd a.toInt.natAbs b.toInt.natAbs : Int) := by
    rw [dv_i lay (by omega), r1i, ia, hY, Int.mul_tdiv_mul_of_pos_left _ _ (by omega)]
  have qb : (b * y / lN (Nat.gcd a.toInt.natAbs b.toInt.natAbs * Y)).toInt = b.toInt.tdiv (Nat.gcd a.toInt.natAbs b.toInt.natAbs : Int) := by
    rw [dv_i lby (by omega), r1i, ib, hY, Int.mul_tdiv_mul_of_pos_left _ _ (by omega)]
  have ta := tdiv_le a.toInt (Nat.gcd a.toInt.natAbs b.toInt.natAbs : Int)
  have tb := tdiv_le b.toInt (Nat.gcd a.toInt.natAbs b.toInt.natAbs : Int)
  have lqa : lb (a * y / lN (Nat.gcd a.toInt.natAbs b.toInt.natAbs * Y)) n := by unfold lb; rw [qa]; exact Nat.le_trans ta ha
  have lqb : lb (b * y / lN (Nat.gcd a.toInt.natAbs b.toInt.natAbs * Y)) n := by unfold lb; rw [qb]; exact Nat.le_trans tb hb
  obtain ⟨c, hcg⟩ : ((Nat.gcd a.toInt.natAbs b.toInt.natAbs : Nat) : Int) ∣ b.toInt := Int.ofNat_dvd_left.mpr (Nat.gcd_dvd_right _ _)
  have qbc : b.toInt.tdiv (Nat.gcd a.toInt.natAbs b.toInt.natAbs : Int) = c := tdiv_c hcg (by omega)
  unfold Fr_put Fr_put_0 Fr_put_50
  rw [Lm_commonDivisor_s (lb_nm lay (by omega)) (lb_nm lby (by omega)), bn1_s, r1, if_neg by0, if_neg r1n]
  have negi : ∀ {x : Int64}, lb x n → (-x).toInt = -x.toInt := fun h => neg_toInt (lb_nm h n63)
  by_cases hs : (0 : Int64) ≤ b
  · have hbp : 0 < b.toInt := by have := le_i.mp hs; rw [show (0 : Int64).toInt = 0 from rfl] at this; omega
    have hsy : (0 : Int64) ≤ b * y := le_i.mpr (by rw [ib]; exact Int.le_of_lt (Int.mul_pos hbp (by omega)))
    have cp : 0 < c := by
      rw [hcg] at hbp
      exact Int.pos_of_mul_pos_right hbp (by omega)
    have e1 : a * y / lN (Nat.gcd a.toInt.natAbs b.toInt.natAbs * Y) = a / fg a b := Int64.toInt_inj.mp (by unfold fg; rw [if_pos hs, qa, dv_i ha n63, gi])
    have e2 : b * y / lN (Nat.gcd a.toInt.natAbs b.toInt.natAbs * Y) = b / fg a b := Int64.toInt_inj.mp (by unfold fg; rw [if_pos hs, qb, dv_i hb n63, gi])
    rw [if_pos hsy, gd_of (decide_eq_true r1n), bd_e, gd_of (decide_eq_true r1n), bd_e, if_pos (lt_i.mpr (by rw [qb, qbc]; exact cp)), e1, e2]
  · have hbn : b.toInt < 0 := by
      have : ¬ (0 : Int) ≤ b.toInt := fun q => hs (le_i.mpr q)
      omega
    have hsy : ¬ (0 : Int64) ≤ b * y := fun q => by
      have := le_i.mp q
      rw [ib, show (0 : Int64).toInt = 0 from rfl] at this
      have h2 := Int.mul_neg_of_neg_of_pos hbn (show 0 < y.toInt by omega)
      omega
    have cn : ¬ (0 : Int) < c := fun q => by
      have := Int.mul_pos (show (0 : Int) < (Nat.gcd a.toInt.natAbs b.toInt.natAbs : Nat) by omega) q
      rw [← hcg] at this
      omega
    have fi : (fg a b).toInt = -(Nat.gcd a.toInt.natAbs b.toInt.natAbs : Int) := by unfold fg; rw [if_neg hs, neg_i lg n63, gi]
    have e1 : -(a * y / lN (Nat.gcd a.toInt.natAbs b.toInt.natAbs * Y)) = a / fg a b := Int64.toInt_inj.mp (by rw [negi lqa, qa, dv_i ha n63, fi, Int.tdiv_neg])
    have e2 : -(b * y / lN (Nat.gcd a.toInt.natAbs b.toInt.natAbs * Y)) = b / fg a b := Int64.toInt_inj.mp (by rw [negi lqb, qb, dv_i hb n63, fi, Int.tdiv_neg])
    rw [if_neg hsy, gd_of (decide_eq_true r1n), bd_e, gd_of (decide_eq_true r1n), bd_e, if_neg (fun q => by have := lt_i.mp q; rw [qb, qbc] at this; exact cn this), e1, e2]
theorem half_s {w : Nat → Bool} {J : HJ} {src : Nat} {s u d : Int32} (h : isPo src) (hs : src < 90) : Re_halfValue (nn w) 89 src s u d J = some (va_up J 91 (wrk 7 (J 91) (fun i => pat (J (src + 1)) (s + 2 * nI i))), vam (wrk 7 (J 91) (fun i => pat (J (src + 1)) (s + 2 * nI i))) (u * u).toInt64 (d * d).toInt64) := by
  unfold Re_halfValue Re_halfValue_0
  rw [nv_89_0, Po_loadEveryOther_s po_90 h (by omega), bn1_s, nv_89_0, Po_valueAtMinus_s po_90, bn1_s, va_up_at]
theorem sq64 {u : Int32} (h : 1 ≤ u.toInt ∧ u.toInt ≤ 9) : (u * u).toInt64 = u.toInt64 * u.toInt64 := by
  have l : lb u.toInt64 9 := lb_32 (by omega)
  have e1 : u.toInt * u.toInt ≤ 9 * 9 := Int.mul_le_mul h.2 h.2 (by omega) (by omega)
  have e2 : 0 ≤ u.toInt * u.toInt := Int.mul_nonneg (by omega) (by omega)
  apply Int64.toInt_inj.mp
  rw [Int32.toInt_toInt64, mul_i l l (by decide), Int32.toInt_toInt64, Int32.toInt_mul, Int.bmod_eq_of_le (by omega) (by omega)]
/-- the class's two halves are the reference's value, times the frequency's lower number -/
theorem half_ev {f g : Nat → Int64} {F : Nat → Int64} {u d : Int32} (hu : 1 ≤ u.toInt ∧ u.toInt ≤ 9) (hd : 1 ≤ d.toInt ∧ d.toInt ≤ 9) (hf : ∀ k, k < 7 → f k = F k) (hp : pev (zl f) = true) : vam (wrk 7 g (fun i => pat f (0 + 2 * nI i))) (u * u).toInt64 (d * d).toInt64 * d.toInt64 = tv F u.toInt64 d.toInt64 7 * d.toInt64 := by
  have z : ∀ k, zl f k = true → f k = 0 := fun k h => of_decide_eq_true h
  unfold pev at hp
  simp only [Bool.and_eq_true] at hp
  obtain ⟨⟨⟨p1, p3⟩, p5⟩, -⟩ := hp
  have c : ∀ i, i < 4 → wrk 7 g (fun i => pat f (0 + 2 * nI i)) i = F (2 * i) := by
    intro i hi
    rw [wrk_lt (by omega), Int32.zero_add, show (2 : Int32) * nI i = nI (2 * i) from i2m i, pat_nI (by omega), hf _ (by omega)]
  rw [sq64 hu, sq64 hd]
  exact vam_ev (c 0 (by decide)) (c 1 (by decide)) (c 2 (by decide)) (c 3 (by decide)) (by rw [← hf 1 (by decide)]; exact z 1 p1) (by rw [← hf 3 (by decide)]; exact z 3 p3) (by rw [← hf 5 (by decide)]; exact z 5 p5)
theorem half_od {f g : Nat → Int64} {F : Nat → Int64} {u d : Int32} (hu : 1 ≤ u.toInt ∧ u.toInt ≤ 9) (hd : 1 ≤ d.toInt ∧ d.toInt ≤ 9) (hf : ∀ k, k < 7 → f k = F k) (hp : pod (zl f) = true) : vam (wrk 7 g (fun i => pat f (1 + 2 * nI i))) (u * u).toInt64 (d * d).toInt64 * u.toInt64 = tv F u.toInt64 d.toInt64 7 * d.toInt64 := by
  have z : ∀ k, zl f k = true → f k = 0 := fun k h => of_decide_eq_true h
  unfold pod at hp
  simp only [Bool.and_eq_true] at hp
  obtain ⟨⟨⟨⟨p0, p2⟩, p4⟩, p6⟩, -⟩ := hp
  have c : ∀ i, i < 3 → wrk 7 g (fun i => pat f (1 + 2 * nI i)) i = F (1 + 2 * i) := by
    intro i hi
    rw [wrk_lt (by omega), show (2 : Int32) * nI i = nI (2 * i) from i2m i, show (1 : Int32) + nI (2 * i) = nI (1 + 2 * i) from nI_add 1 _, pat_nI (by omega), hf _ (by omega)]
  have c3 : wrk 7 g (fun i => pat f (1 + 2 * nI i)) 3 = 0 := by
    rw [wrk_lt (by decide), show (1 : Int32) + 2 * nI 3 = nI 7 from by decide, pat_hi (by decide) (by decide)]
  rw [sq64 hu, sq64 hd]
  exact vam_od (c 0 (by decide)) (c 1 (by decide)) (c 2 (by decide)) c3 (by rw [← hf 0 (by decide)]; exact z 0 p0) (by rw [← hf 2 (by decide)]; exact z 2 p2) (by rw [← hf 4 (by decide)]; exact z 4 p4) (by rw [← hf 6 (by decide)]; exact z 6 p6)
