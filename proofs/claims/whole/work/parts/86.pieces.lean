/-- the rows p and q of the reference's ways 0 and 1 -/
theorem tm7 {k : Nat} (h : k < 7) : inb (nI k) (Tm 7).2 = true := inb_nI h (by decide)
theorem tm8 {k : Nat} (h : k < 7) : inb (nI k) (Tm 8).2 = true := inb_nI h (by decide)
theorem Mo_top_s {J : HJ} {b : Nat} (hb : (Tm b).2 = 7) : Mo_top J b = some (dgb 7 (zl (J b))) := by
  unfold Mo_top Mo_top_0
  have st : ∀ n k, k < 7 → Mo_top_4 J b (n + 1) (dgb k (zl (J b))) (nI k) = Mo_top_4 J b n (dgb (k + 1) (zl (J b))) (nI (k + 1)) := by
    intro n k hk
    show Mo_top_4b J b (Mo_top_4 J b n) _ (nI k) = Mo_top_4 J b n (if zl (J b) k = true then dgb k (zl (J b)) else nI k) (nI (k + 1))
    unfold Mo_top_4b Mo_top_23
    rw [if_neg (n7 hk), gd_of (by rw [hb]; exact inb_nI hk (by decide)), nI_clamp (by omega), nI_1]
    by_cases e : J b k = 0
    · rw [if_pos e, if_pos (zl_t e)]
    · rw [if_neg e, if_neg (zl_f e)]
  refine up_loop (fun n S y => Mo_top_4 J b n S y) (fun k => dgb k (zl (J b))) (some (dgb 7 (zl (J b)))) 7 st (fun n => ?_) 256 0 (by decide) (by decide)
  show Mo_top_4b J b (Mo_top_4 J b n) _ (nI 7) = _
  unfold Mo_top_4b
  rw [if_pos (by decide)]
theorem Mo_swaps_s {J : HJ} : Mo_swaps N_m 0 J = some (va_up (va_up J 7 (wrk 7 (J 7) (J 8))) 8 (wrk 7 (J 8) (J 7))) := by
  have key := up_loop (fun n (S : HJ) y => Mo_swaps_2 N_m 0 n S y) (fun k => va_up (va_up J 7 (wrk k (J 7) (J 8))) 8 (wrk k (J 8) (J 7))) (some (va_up (va_up J 7 (wrk 7 (J 7) (J 8))) 8 (wrk 7 (J 8) (J 7)))) 7 (fun n k hk => ?_) (fun n => ?_) 256 0 (by decide) (by decide)
  · rw [wrk_0, wrk_0, va_up_id, va_up_id] at key
    exact key
  · show Mo_swaps_2b N_m 0 (Mo_swaps_2 N_m 0 n) _ (nI k) = _
    unfold Mo_swaps_2b
    rw [if_neg (n7 hk), mv_11, gd_of (tm7 hk), bd_e, mv_11, mv_12, gd_of (tm8 hk), gd_of (tm7 hk), bd_e, mv_12, gd_of (tm8 hk), bd_e, nI_clamp (by omega), va_up_at, va_up_of (show (7 : Nat) ≠ 8 by decide), va_up_at, wrk_ge (Nat.le_refl k), wrk_ge (Nat.le_refl k), up2_skip (by decide), wrk_s, up2_va, wrk_s, nI_1]
  · show Mo_swaps_2b N_m 0 (Mo_swaps_2 N_m 0 n) _ (nI 7) = _
    unfold Mo_swaps_2b
    rw [if_pos (by decide)]
/-- the content of a row of seven, and the row divided by it -/
theorem Mo_content_s {J : HJ} {b : Nat} (hb : (Tm b).2 = 7) (hn : ∀ k, k < 7 → nm (J b k)) : Mo_content b J = some (va_up J b (wrk 7 (J b) (fun k => if lN (gcf 7 (J b)) ≤ 1 then J b k else J b k / lN (gcf 7 (J b)))), lN (gcf 7 (J b))) := by
  have glt : ∀ k, k ≤ 7 → gcf k (J b) < 2 ^ 63 := fun k hk => gcf_lt k (fun j hj => hn j (by omega))
  have h4 : Mo_content b J = Mo_content_26 b 256 J (lN (gcf 7 (J b))) 0 := by
    unfold Mo_content Mo_content_0
    refine up_loop (fun n S y => Mo_content_4 b n J S y) (fun k => lN (gcf k (J b))) _ 7 (fun n k hk => ?_) (fun n => ?_) 256 0 (by decide) (by decide)
    · show Mo_content_4b b (Mo_content_4 b n) J _ (nI k) = _
      unfold Mo_content_4b
      rw [if_neg (n7 hk), gd_of (by rw [hb]; exact inb_nI hk (by decide)), nI_clamp (by omega), Mo_divisor_s (lN_nm (glt k (by omega))) (hn k hk), bn1_s, gl_lN (glt k (by omega)), nI_1]
      rfl
    · show Mo_content_4b b (Mo_content_4 b n) J _ (nI 7) = _
      unfold Mo_content_4b
      rw [if_pos (by decide)]
  rw [h4]
  by_cases e : lN (gcf 7 (J b)) ≤ 1
  · show Mo_content_26b b (Mo_content_26 b 255) J _ 0 = _
    unfold Mo_content_26b
    rw [if_neg (by decide), if_pos e, wrk_id (fun j _ => by rw [if_pos e]), va_up_id]
  · have ne : ¬ lN (gcf 7 (J b)) = 0 := fun q => e (by rw [q]; decide)
    have key := up_loop (fun n (S : HJ) y => Mo_content_26 b n S (lN (gcf 7 (J b))) y) (fun k => va_up J b (wrk k (J b) (fun k => if lN (gcf 7 (J b)) ≤ 1 then J b k else J b k / lN (gcf 7 (J b))))) (some (va_up J b (wrk 7 (J b) (fun k => if lN (gcf 7 (J b)) ≤ 1 then J b k else J b k / lN (gcf 7 (J b)))), lN (gcf 7 (J b)))) 7 (fun n k hk => ?_) (fun n => ?_) 256 0 (by decide) (by decide)
    · rw [wrk_0, va_up_id] at key
      exact key
    · show Mo_content_26b b (Mo_content_26 b n) _ _ (nI k) = _
      unfold Mo_content_26b
      rw [if_neg (n7 hk), if_neg e, gd_of (by rw [hb]; exact inb_nI hk (by decide)), gd_of (decide_eq_true ne), gd_of (by rw [hb]; exact inb_nI hk (by decide)), bd_e, nI_clamp (by omega), va_up_at, wrk_ge (Nat.le_refl k), up2_va, nI_1, ← wrk_s (f := J b) (i := k)]
      rw [if_neg e]
    · show Mo_content_26b b (Mo_content_26 b n) _ _ (nI 7) = _
      unfold Mo_content_26b
      rw [if_pos (by decide)]
/-- the reference's value, lowered -/
theorem Mo_takes_s {J : HJ} {a b : Int64} {n : Nat} (ha : lb a n) (hb : lb b n) (hn : n < 2 ^ 63) (h0 : ¬ b = 0) : Mo_takes 0 a b J = some (up2 (up2 J 0 9 (a / fg a b)) 0 10 (b / fg a b)) := by
  have ne := fg_ne ha hb hn h0
  unfold Mo_takes Mo_takes_0
  rw [Mo_divisor_s (lb_nm ha hn) (lb_nm hb hn), bn1_s]
  have c : ∀ z : Int64, ¬ z = 0 → Mo_takes_22 0 a b J z = some (up2 (up2 J 0 9 (a / z)) 0 10 (b / z)) := by
    intro z hz
    unfold Mo_takes_22
    rw [gd_of (decide_eq_true hz), bd_e, gd_of (decide_eq_true hz), bd_e]
  unfold fg at ne ⊢
  by_cases hs : (0 : Int64) ≤ b
  · rw [if_pos hs] at ne ⊢; rw [if_pos hs, c _ ne]
  · rw [if_neg hs] at ne ⊢; rw [if_neg hs, c _ ne]
theorem Fr_put_s {p n : Nat} {a b : Int64} {J : HJ} (ha : lb a n) (hb : lb b n) (hn : n * 9 < 2 ^ 62) (hb0 : ¬ b = 0) : Fr_put p a b J = some (up2 (up2 J p 0 (a / fg a b)) p 1 (b / fg a b)) := by
  have := fr_scale (p := p) (J := J) (y := 1) ha hb (show lb 1 9 by unfold lb; decide) (by decide) hn hb0
  rw [Int64.mul_one, Int64.mul_one] at this
  exact this
/-- a fraction in lowest terms, its lower number above 0 -/
theorem fg_low {a b : Int64} {n : Nat} (ha : lb a n) (hb : lb b n) (hn : n < 2 ^ 63) (h0 : ¬ b = 0) : 0 < (b / fg a b).toInt ∧ (a / fg a b).toInt * b.toInt = (b / fg a b).toInt * a.toInt ∧ Nat.gcd (a / fg a b).toInt.natAbs (b / fg a b).toInt.natAbs = 1 := by
  have bne : b.toInt ≠ 0 := fun q => h0 (Int64.toInt_inj.mp (q.trans rfl))
  have gpos : 0 < Nat.gcd a.toInt.natAbs b.toInt.natAbs := Nat.gcd_pos_of_pos_right _ (by omega)
  have gle : Nat.gcd a.toInt.natAbs b.toInt.natAbs ≤ n := Nat.le_trans (Nat.gcd_le_right _ (by omega)) hb
  have gi : (gl a b).toInt = (Nat.gcd a.toInt.natAbs b.toInt.natAbs : Int) := pk_lT (by omega)
  have lg : lb (gl a b) n := by unfold lb; rw [gi]; exact gle
  obtain ⟨x, hx⟩ : ((Nat.gcd a.toInt.natAbs b.toInt.natAbs : Nat) : Int) ∣ a.toInt := Int.ofNat_dvd_left.mpr (Nat.gcd_dvd_left _ _)
  obtain ⟨y, hy⟩ : ((Nat.gcd a.toInt.natAbs b.toInt.natAbs : Nat) : Int) ∣ b.toInt := Int.ofNat_dvd_left.mpr (Nat.gcd_dvd_right _ _)
  have cop : Nat.gcd x.natAbs y.natAbs = 1 := by
    have h1 : a.toInt.natAbs = Nat.gcd a.toInt.natAbs b.toInt.natAbs * x.natAbs := by
      conv => lhs; rw [hx]
      rw [Int.natAbs_mul, Int.natAbs_natCast]
    have h2 : b.toInt.natAbs = Nat.gcd a.toInt.natAbs b.toInt.natAbs * y.natAbs := by
      conv => lhs; rw [hy]
      rw [Int.natAbs_mul, Int.natAbs_natCast]
    have h3 : Nat.gcd a.toInt.natAbs b.toInt.natAbs * Nat.gcd x.natAbs y.natAbs = Nat.gcd a.toInt.natAbs b.toInt.natAbs * 1 := by
      rw [← Nat.gcd_mul_left, ← h1, ← h2, Nat.mul_one]
    exact Nat.eq_of_mul_eq_mul_left gpos h3
  have xa : a.toInt.tdiv (Nat.gcd a.toInt.natAbs b.toInt.natAbs : Int) = x := tdiv_c hx (by omega)
  have yb : b.toInt.tdiv (Nat.gcd a.toInt.natAbs b.toInt.natAbs : Int) = y := tdiv_c hy (by omega)
  rw [dv_i ha hn, dv_i hb hn]
  have cross : x * b.toInt = y * a.toInt := by
    generalize Nat.gcd a.toInt.natAbs b.toInt.natAbs = g at hx hy
    rw [hx, hy]; grind
  by_cases hs : (0 : Int64) ≤ b
  · have hbp : 0 < b.toInt := by have := le_i.mp hs; rw [show (0 : Int64).toInt = 0 from rfl] at this; omega
    have fi : (fg a b).toInt = (Nat.gcd a.toInt.natAbs b.toInt.natAbs : Int) := by unfold fg; rw [if_pos hs, gi]
    rw [fi, xa, yb]
    refine ⟨?_, cross, cop⟩
    generalize Nat.gcd a.toInt.natAbs b.toInt.natAbs = g at hy gpos
    rw [hy] at hbp
    exact Int.pos_of_mul_pos_right hbp (by omega)
  · have hbn : b.toInt < 0 := by
      have : ¬ (0 : Int) ≤ b.toInt := fun q => hs (le_i.mpr q)
      omega
    have fi : (fg a b).toInt = -(Nat.gcd a.toInt.natAbs b.toInt.natAbs : Int) := by unfold fg; rw [if_neg hs, neg_i lg hn, gi]
    rw [fi, Int.tdiv_neg, Int.tdiv_neg, xa, yb]
    refine ⟨?_, by rw [Int.neg_mul, Int.neg_mul, cross], by rw [Int.natAbs_neg, Int.natAbs_neg]; exact cop⟩
    generalize Nat.gcd a.toInt.natAbs b.toInt.natAbs = g at hy gpos
    have hyn : y < 0 := by
      rcases Int.lt_trichotomy y 0 with q | q | q
      · exact q
      · rw [q, Int.mul_zero] at hy; omega
      · have := Int.mul_pos (show (0 : Int) < (g : Int) by omega) q
        omega
    omega
/-- two lowest fractions of one value are one -/
theorem low_uni {u d x y : Int} (hd : 0 < d) (hy : 0 < y) (h1 : Nat.gcd u.natAbs d.natAbs = 1) (h2 : Nat.gcd x.natAbs y.natAbs = 1) (h : u * y = x * d) : u = x ∧ d = y := by
  have a1 : d.natAbs ∣ y.natAbs := by
    have : d.natAbs ∣ u.natAbs * y.natAbs := by rw [← Int.natAbs_mul, h, Int.natAbs_mul]; exact Nat.dvd_mul_left _ _
    exact Nat.Coprime.dvd_of_dvd_mul_left (Nat.Coprime.symm h1) this
  have a2 : y.natAbs ∣ d.natAbs := by
    have : y.natAbs ∣ x.natAbs * d.natAbs := by rw [← Int.natAbs_mul, ← h, Int.natAbs_mul]; exact Nat.dvd_mul_left _ _
    exact Nat.Coprime.dvd_of_dvd_mul_left (Nat.Coprime.symm h2) this
  have e : d = y := by
    have := Nat.dvd_antisymm a1 a2
    omega
  subst e
  exact ⟨Int.eq_of_mul_eq_mul_right (by omega) h, rfl⟩
/-- the reference's scale -/
theorem Mo_scales_s {J : HJ} {p1 p3 p5 p7 : Int64} {a b c d : Nat} (h1 : lb p1 a) (h5 : lb p5 b) (h3 : lb p3 c) (h7 : lb p7 d) (la : a < 2 ^ 63) (lb' : b < 2 ^ 63) (lc : c < 2 ^ 63) (ld : d < 2 ^ 63) (hab : a * b < 2 ^ 63) (hcd : c * d < 2 ^ 63) (n3 : ¬ p3 = 0) (n7 : ¬ p7 = 0) : ∃ (J' : HJ), Mo_scales 0 p1 p3 p5 p7 J = some J' ∧ (∀ r, r ≠ 0 → J' r = J r) ∧ (∀ k, k ≠ 13 → k ≠ 14 → J' 0 k = J 0 k) ∧ 0 < (J' 0 14).toInt ∧ (J' 0 13).toInt * (p3.toInt * p7.toInt) = (J' 0 14).toInt * (p1.toInt * p5.toInt) ∧ lb (J' 0 13) (a * b) ∧ lb (J' 0 14) (c * d) := by
  have e3 : p3.toInt ≠ 0 := fun q => n3 (Int64.toInt_inj.mp (q.trans rfl))
  have e7 : p7.toInt ≠ 0 := fun q => n7 (Int64.toInt_inj.mp (q.trans rfl))
  have g1 : 0 < Nat.gcd p1.toInt.natAbs p7.toInt.natAbs := Nat.gcd_pos_of_pos_right _ (by omega)
  have g3 : 0 < Nat.gcd p5.toInt.natAbs p3.toInt.natAbs := Nat.gcd_pos_of_pos_right _ (by omega)
  have l1 : Nat.gcd p1.toInt.natAbs p7.toInt.natAbs ≤ d := Nat.le_trans (Nat.gcd_le_right _ (by omega)) h7
  have l3 : Nat.gcd p5.toInt.natAbs p3.toInt.natAbs ≤ c := Nat.le_trans (Nat.gcd_le_right _ (by omega)) h3
  have i1 : (gl p1 p7).toInt = (Nat.gcd p1.toInt.natAbs p7.toInt.natAbs : Int) := pk_lT (by omega)
  have i3 : (gl p5 p3).toInt = (Nat.gcd p5.toInt.natAbs p3.toInt.natAbs : Int) := pk_lT (by omega)
  obtain ⟨x1, hx1⟩ : ((Nat.gcd p1.toInt.natAbs p7.toInt.natAbs : Nat) : Int) ∣ p1.toInt := Int.ofNat_dvd_left.mpr (Nat.gcd_dvd_left _ _)
  obtain ⟨x7, hx7⟩ : ((Nat.gcd p1.toInt.natAbs p7.toInt.natAbs : Nat) : Int) ∣ p7.toInt := Int.ofNat_dvd_left.mpr (Nat.gcd_dvd_right _ _)
  obtain ⟨x5, hx5⟩ : ((Nat.gcd p5.toInt.natAbs p3.toInt.natAbs : Nat) : Int) ∣ p5.toInt := Int.ofNat_dvd_left.mpr (Nat.gcd_dvd_left _ _)
  obtain ⟨x3, hx3⟩ : ((Nat.gcd p5.toInt.natAbs p3.toInt.natAbs : Nat) : Int) ∣ p3.toInt := Int.ofNat_dvd_left.mpr (Nat.gcd_dvd_right _ _)
  have q1 : (p1 / gl p1 p7).toInt = x1 := by rw [dv_i h1 la, i1]; exact tdiv_c hx1 (by omega)
  have q7 : (p7 / gl p1 p7).toInt = x7 := by rw [dv_i h7 ld, i1]; exact tdiv_c hx7 (by omega)
  have q5 : (p5 / gl p5 p3).toInt = x5 := by rw [dv_i h5 lb', i3]; exact tdiv_c hx5 (by omega)
  have q3 : (p3 / gl p5 p3).toInt = x3 := by rw [dv_i h3 lc, i3]; exact tdiv_c hx3 (by omega)
  have b1 : lb (p1 / gl p1 p7) a := lb_div h1 la
  have b7 : lb (p7 / gl p1 p7) d := lb_div h7 ld
  have b5 : lb (p5 / gl p5 p3) b := lb_div h5 lb'
  have b3 : lb (p3 / gl p5 p3) c := lb_div h3 lc
  have U : (p1 / gl p1 p7 * (p5 / gl p5 p3)).toInt = x1 * x5 := by rw [mul_i b1 b5 hab, q1, q5]
  have D : (p3 / gl p5 p3 * (p7 / gl p1 p7)).toInt = x3 * x7 := by rw [mul_i b3 b7 hcd, q3, q7]
  have bU : lb (p1 / gl p1 p7 * (p5 / gl p5 p3)) (a * b) := lb_mul b1 b5 hab
  have bD : lb (p3 / gl p5 p3 * (p7 / gl p1 p7)) (c * d) := lb_mul b3 b7 hcd
  have z1 : ¬ gl p1 p7 = 0 := fun q => by have := congrArg Int64.toInt q; rw [i1, show (0 : Int64).toInt = 0 from rfl] at this; omega
  have z3 : ¬ gl p5 p3 = 0 := fun q => by have := congrArg Int64.toInt q; rw [i3, show (0 : Int64).toInt = 0 from rfl] at this; omega
  have D0 : x3 * x7 ≠ 0 := by
    intro q
    rcases Int.mul_eq_zero.mp q with h | h
    · rw [h, Int.mul_zero] at hx3; exact e3 hx3
    · rw [h, Int.mul_zero] at hx7; exact e7 hx7
  have cross : x1 * x5 * (p3.toInt * p7.toInt) = x3 * x7 * (p1.toInt * p5.toInt) := by
    generalize Nat.gcd p1.toInt.natAbs p7.toInt.natAbs = A at hx1 hx7
    generalize Nat.gcd p5.toInt.natAbs p3.toInt.natAbs = B at hx5 hx3
    rw [hx1, hx7, hx5, hx3]; grind
  unfold Mo_scales Mo_scales_0
  rw [Mo_divisor_s (lb_nm h1 la) (lb_nm h7 ld), bn1_s, Mo_divisor_s (lb_nm h5 lb') (lb_nm h3 lc), bn1_s, gd_of (decide_eq_true z1), gd_of (decide_eq_true z3), bd_e, gd_of (decide_eq_true z3), gd_of (decide_eq_true z1), bd_e]
  generalize p1 / gl p1 p7 * (p5 / gl p5 p3) = u at U bU
  generalize p3 / gl p5 p3 * (p7 / gl p1 p7) = v at D bD
  have r13 : up2 (up2 J 0 13 u) 0 14 v 0 13 = u := by rw [up2_at, va_up_of (by decide), up2_at, va_up_at]
  have r14 : up2 (up2 J 0 13 u) 0 14 v 0 14 = v := by rw [up2_at, va_up_at]
  rw [r14, r13]
  by_cases hs : (0 : Int64) ≤ v
  · have := le_i.mp hs
    rw [show (0 : Int64).toInt = 0 from rfl] at this
    rw [if_pos hs]
    refine ⟨_, rfl, fun r hr => by rw [up2_of hr, up2_of hr], fun k k1 k2 => by rw [up2_at, va_up_of k2, up2_at, va_up_of k1], ?_, ?_, ?_, ?_⟩
    · rw [r14, D]; omega
    · rw [r13, r14, U, D]; exact cross
    · rw [r13]; exact bU
    · rw [r14]; exact bD
  · have hneg : v.toInt < 0 := by
      have : ¬ (0 : Int) ≤ v.toInt := fun q => hs (le_i.mpr q)
      omega
    rw [if_neg hs, bd_e, bd_e]
    have t14 : up2 (up2 (up2 J 0 13 u) 0 14 v) 0 13 (0 - u) 0 14 = v := by rw [up2_at, va_up_of (by decide)]; exact r14
    rw [t14]
    have s13 : up2 (up2 (up2 (up2 J 0 13 u) 0 14 v) 0 13 (0 - u)) 0 14 (0 - v) 0 13 = 0 - u := by rw [up2_at, va_up_of (by decide), up2_at, va_up_at]
    have s14 : up2 (up2 (up2 (up2 J 0 13 u) 0 14 v) 0 13 (0 - u)) 0 14 (0 - v) 0 14 = 0 - v := by rw [up2_at, va_up_at]
    refine ⟨_, rfl, fun r hr => by rw [up2_of hr, up2_of hr, up2_of hr, up2_of hr], fun k k1 k2 => by rw [up2_at, va_up_of k2, up2_at, va_up_of k1, up2_at, va_up_of k2, up2_at, va_up_of k1], ?_, ?_, ?_, ?_⟩
    · rw [s14, neg_i bD hcd, D]; rw [D] at hneg; omega
    · rw [s13, s14, neg_i bU hab, neg_i bD hcd, U, D, Int.neg_mul, Int.neg_mul, cross]
    · rw [s13]; exact lb_neg bU hab
    · rw [s14]; exact lb_neg bD hcd
