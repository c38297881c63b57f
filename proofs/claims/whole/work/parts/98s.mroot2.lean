theorem lay_1b {f : Nat → Int32} {m : Nat} {p u v x y : Int32} : va_up (va_up (wrs (5 * m) 5 f (arow p 0 0 x y)) (5 * m + 1) u) (5 * m + 1 + 1) v = wrs (5 * m) 5 f (arow p u v x y) := by
  funext j
  by_cases h : 5 * m ≤ j ∧ j < 5 * m + 5
  · obtain ⟨i, rfl, hi⟩ : ∃ i, j = 5 * m + i ∧ i < 5 := ⟨j - 5 * m, by omega, by omega⟩
    rw [wrs_in h, show 5 * m + i - 5 * m = i by omega]
    by_cases e2 : i = 2
    · subst e2; rw [show 5 * m + 1 + 1 = 5 * m + 2 by omega, va_up_at]; rfl
    · rw [va_up_of (by omega)]
      by_cases e1 : i = 1
      · subst e1; rw [va_up_at]; rfl
      · rw [va_up_of (by omega), wrs_in h, show 5 * m + i - 5 * m = i by omega]
        rcases (show i = 0 ∨ i = 3 ∨ i = 4 by omega) with rfl | rfl | rfl <;> rfl
  · rw [va_up_of (by omega), va_up_of (by omega), wrs_out h, wrs_out h]
/-- the reference's arm of a pole at a root -/
theorem mroot_121 {x m : Nat} {a b : Int} {I : HI} {J : HJ} {X s0 s1 u d : Int64} {p2 : Int32} (hxx : x < 2) (hm : m < 8) (hc : I 0 8 = nI m) (hR : Ro a b) (ha : 0 < a) (lX : lb X 1000000000) (lY : lb (s0 * s1) 1000000000) (X0 : X.toInt ≠ 0) (Y0 : (s0 * s1).toInt ≠ 0) (f1 : 0 < d.toInt) (f3 : Nat.gcd u.toInt.natAbs d.toInt.natAbs = 1) (lu : lb u 100000000) (ld : lb d 100000000) (f2 : u.toInt * (s0 * s1).toInt = d.toInt * X.toInt) :
    (u.toInt < 0 → Mo_rootOnce_121 N_m 0 (nI (2 + x)) p2 (oi a) (oi b) I J X s0 s1 = some (I, J, -100 - p2)) ∧
    (0 < u.toInt → ¬ hy4 ((u * oi b) / fg (u * oi b) (d * oi a)) ((d * oi a) / fg (u * oi b) (d * oi a)) u d → ∃ (I' : HI) (J' : HJ), Mo_rootOnce_121 N_m 0 (nI (2 + x)) p2 (oi a) (oi b) I J X s0 s1 = some (I', J', -5) ∧ (∀ q, q ≠ 6 → I' q = I q) ∧ ∀ q, q ≠ 0 → J' q = J q) ∧
    (0 < u.toInt → hy4 ((u * oi b) / fg (u * oi b) (d * oi a)) ((d * oi a) / fg (u * oi b) (d * oi a)) u d → ∃ J' : HJ, Mo_rootOnce_121 N_m 0 (nI (2 + x)) p2 (oi a) (oi b) I J X s0 s1 = some (up2 (va_up I 6 (wrs (5 * m) 5 (I 6) (yrow x ((u * oi b) / fg (u * oi b) (d * oi a)) ((d * oi a) / fg (u * oi b) (d * oi a)) u d))) 0 8 (nI (m + 1)), J', 0) ∧ ∀ q, q ≠ 0 → J' q = J q) := by
  obtain ⟨Y, hY⟩ : ∃ Y, Y = s0 * s1 := ⟨_, rfl⟩
  rw [← hY] at lY Y0 f2
  have le0 : ∀ y : Int64, (0 : Int64) ≤ y ↔ 0 ≤ y.toInt := fun y => le_i
  have sgn : 0 < u.toInt ↔ (0 ≤ X.toInt ↔ 0 ≤ Y.toInt) := by
    constructor
    · intro q
      constructor
      · intro z
        have := Int.mul_pos f1 (show 0 < X.toInt by omega)
        rw [← f2] at this
        have := Int.pos_of_mul_pos_right this (by omega)
        omega
      · intro z
        have := Int.mul_pos q (show 0 < Y.toInt by omega)
        rw [f2] at this
        have := Int.pos_of_mul_pos_right this (by omega)
        omega
    · intro q
      by_cases z : 0 ≤ Y.toInt
      · have g1 : 0 < X.toInt := by have := q.mpr z; omega
        have := Int.mul_pos f1 g1
        rw [← f2, Int.mul_comm] at this
        exact Int.pos_of_mul_pos_right this (by omega)
      · have g1 : X.toInt < 0 := by
          have : ¬ 0 ≤ X.toInt := fun y => z (q.mp y)
          omega
        have h1 : Y.toInt < 0 := by omega
        have := Int.mul_pos f1 (show 0 < -X.toInt by omega)
        rw [Int.mul_neg, ← f2, ← Int.mul_neg, Int.mul_comm] at this
        exact Int.pos_of_mul_pos_right this (by omega)
  have st : Mo_rootOnce_121 N_m 0 (nI (2 + x)) p2 (oi a) (oi b) I J X s0 s1 = if 0 < u.toInt then Mo_rootOnce_148 N_m 0 (nI (2 + x)) p2 (oi a) (oi b) I J X Y 0 0 else some (I, J, -100 - p2) := by
    have e11 : Mo_rootOnce_148 N_m 0 (nI (2 + x)) p2 (oi a) (oi b) I J X Y 1 1 = Mo_rootOnce_148 N_m 0 (nI (2 + x)) p2 (oi a) (oi b) I J X Y 0 0 := by
      unfold Mo_rootOnce_148
      rw [if_pos rfl, if_pos rfl]
    have e01 : Mo_rootOnce_148 N_m 0 (nI (2 + x)) p2 (oi a) (oi b) I J X Y 0 1 = some (I, J, -100 - p2) := by
      unfold Mo_rootOnce_148
      rw [if_neg (by decide)]
    have e10 : Mo_rootOnce_148 N_m 0 (nI (2 + x)) p2 (oi a) (oi b) I J X Y 1 0 = some (I, J, -100 - p2) := by
      unfold Mo_rootOnce_148
      rw [if_neg (by decide)]
    unfold Mo_rootOnce_121 Mo_rootOnce_136
    rw [bd_e, ← hY, e11, e01, e10]
    by_cases c1 : 0 ≤ X.toInt
    · rw [if_pos ((le0 X).mpr c1)]
      by_cases c2 : 0 ≤ Y.toInt
      · rw [if_pos ((le0 Y).mpr c2), if_pos (sgn.mpr ⟨fun _ => c2, fun _ => c1⟩)]
      · rw [if_neg (fun q => c2 ((le0 Y).mp q)), if_neg (fun q => c2 ((sgn.mp q).mp c1))]
    · rw [if_neg (fun q => c1 ((le0 X).mp q))]
      by_cases c2 : 0 ≤ Y.toInt
      · rw [if_pos ((le0 Y).mpr c2), if_neg (fun q => c1 ((sgn.mp q).mpr c2))]
      · rw [if_neg (fun q => c2 ((le0 Y).mp q)), if_pos (sgn.mpr ⟨fun q => absurd q c1, fun q => absurd q c2⟩)]
  rw [st]
  refine ⟨fun q => if_neg (by omega), fun q hh => ?_, fun q hh => ?_⟩
  all_goals
    rw [if_pos q]
    have Yn : ¬ Y = 0 := i64_ne.mpr Y0
    obtain ⟨k1, k2, k3⟩ := fg_low lX lY (by decide) Yn
    have Xu : X / fg X Y = u ∧ Y / fg X Y = d := by
      obtain ⟨a1, a2⟩ := low_uni k1 f1 k3 f3 (by
        apply Int.eq_of_mul_eq_mul_right Y0
        generalize (X / fg X Y).toInt = y1 at *
        generalize (Y / fg X Y).toInt = y2 at *
        have e1 : y1 * d.toInt * Y.toInt = (y1 * Y.toInt) * d.toInt := by grind
        rw [e1, k2]
        have e2 : u.toInt * y2 * Y.toInt = (u.toInt * Y.toInt) * y2 := by grind
        rw [e2, f2]; grind)
      exact ⟨Int64.toInt_inj.mp a1, Int64.toInt_inj.mp a2⟩
    obtain ⟨b1, b2, b3, b4, b5⟩ := by_pos lu ld hR ha q f1
    have un : ¬ u = 0 := i64_ne.mpr (by omega)
    have du : d / fg d u = d ∧ u / fg d u = u := by
      obtain ⟨j1, j2, j3⟩ := fg_low ld lu (by decide) un
      obtain ⟨a1, a2⟩ := low_uni j1 q j3 (by rw [Nat.gcd_comm]; exact f3) (by
        generalize (d / fg d u).toInt = y1 at *
        generalize (u / fg d u).toInt = y2 at *
        rw [j2]; exact Int.mul_comm _ _)
      exact ⟨Int64.toInt_inj.mp a1, Int64.toInt_inj.mp a2⟩
    obtain ⟨R0, hR0⟩ : ∃ R0, R0 = (u * oi b) / fg (u * oi b) (d * oi a) := ⟨_, rfl⟩
    obtain ⟨R1, hR1⟩ : ∃ R1, R1 = (d * oi a) / fg (u * oi b) (d * oi a) := ⟨_, rfl⟩
    rw [← hR0, ← hR1] at hh
    unfold hy4 at hh
    unfold Mo_rootOnce_148
    rw [if_pos rfl, Mo_takes_s lX lY (by decide) Yn, Xu.1, Xu.2, bn1_s, bd_e, bd_e]
    obtain ⟨K0, hK0⟩ : ∃ K0 : HJ, K0 = up2 (up2 J 0 9 u) 0 10 d := ⟨_, rfl⟩
    rw [← hK0]
    have k09 : K0 0 9 = u := by rw [hK0, up2_at, va_up_of (by decide), up2_at, va_up_at]
    have k010 : K0 0 10 = d := by rw [hK0, up2_at, va_up_at]
    have kf0 : ∀ q, q ≠ 0 → K0 q = J q := fun q hq => by rw [hK0, up2_of hq, up2_of hq]
    rw [show nI (2 + x) - 2 = nI x from by rw [show (2 : Int32) = nI 2 from rfl, nI_sub (by omega)]; congr 1; omega, Mo_makes_s hm hc, bn1_s, k09, k010, Mo_takes_s b1 b2 (by decide) b3, ← hR0, ← hR1, bn1_s]
    obtain ⟨K1, hK1⟩ : ∃ K1 : HJ, K1 = up2 (up2 K0 0 9 R0) 0 10 R1 := ⟨_, rfl⟩
    rw [← hK1]
    have k19 : K1 0 9 = R0 := by rw [hK1, up2_at, va_up_of (by decide), up2_at, va_up_at]
    have k110 : K1 0 10 = R1 := by rw [hK1, up2_at, va_up_at]
    have kf1 : ∀ q, q ≠ 0 → K1 q = J q := fun q hq => by rw [hK1, up2_of hq, up2_of hq, kf0 q hq]
    obtain ⟨K2, hK2⟩ : ∃ K2 : HJ, K2 = up2 (up2 K1 0 9 d) 0 10 u := ⟨_, rfl⟩
    have k29 : K2 0 9 = d := by rw [hK2, up2_at, va_up_of (by decide), up2_at, va_up_at]
    have k210 : K2 0 10 = u := by rw [hK2, up2_at, va_up_at]
    have kf2 : ∀ q, q ≠ 0 → K2 q = J q := fun q hq => by rw [hK2, up2_of hq, up2_of hq, kf1 q hq]
    rw [Mo_isHandy_s, bn1_s, k19, k110]
    have r213 : ∀ (o : Nat) (I6 : HI), o < 4 → I6 0 8 = nI m → Mo_rootOnce_213 N_m 0 (nI (2 + x)) p2 (oi a) (oi b) I6 K1 u d (b2i (decide (R0.toInt ≤ 99 ∧ R1.toInt ≤ 99))) 0 (nI o) = if ((u.toInt ≤ 99 ∧ d.toInt ≤ 99) ∧ R0.toInt ≤ 99 ∧ R1.toInt ≤ 99) then Mo_rootOnce_241 N_m 0 (nI (2 + x)) p2 (oi a) (oi b) (va_up I6 6 (va_up (va_up (I6 6) (5 * m + o) R0.toInt32) (5 * m + o + 1) R1.toInt32)) K2 1 else some (va_up I6 6 (va_up (va_up (I6 6) (5 * m + o) R0.toInt32) (5 * m + o + 1) R1.toInt32), K2, -5) := by
      intro o I6 ho h8
      unfold Mo_rootOnce_213 Mo_rootOnce_240
      rw [Mo_lays_s (m := m) hm ho h8, bn1_s, k19, k110, Mo_takes_s ld lu (by decide) un, du.1, du.2, bn1_s, ← hK2, Mo_isHandy_s, bn1_s, k29, k210]
      have bad : Mo_rootOnce_241 N_m 0 (nI (2 + x)) p2 (oi a) (oi b) (va_up I6 6 (va_up (va_up (I6 6) (5 * m + o) R0.toInt32) (5 * m + o + 1) R1.toInt32)) K2 0 = some (va_up I6 6 (va_up (va_up (I6 6) (5 * m + o) R0.toInt32) (5 * m + o + 1) R1.toInt32), K2, -5) := by
        unfold Mo_rootOnce_241
        rw [if_pos rfl]
      rw [bad]
      by_cases c1 : R0.toInt ≤ 99 ∧ R1.toInt ≤ 99
      · rw [decide_eq_true c1, if_neg b2i_t]
        by_cases c2 : d.toInt ≤ 99 ∧ u.toInt ≤ 99
        · rw [decide_eq_true c2, if_neg b2i_t, if_pos ⟨⟨c2.2, c2.1⟩, c1⟩]
        · rw [decide_eq_false c2, if_pos b2i_f, if_neg (fun z => c2 ⟨z.1.2, z.1.1⟩)]
      · rw [decide_eq_false c1, if_pos b2i_f, if_neg (fun z => c1 z.2)]
    have h8 : (va_up I 6 (wrs (5 * m) 5 (I 6) (arow (nI x) 0 0 0 0))) 0 8 = nI m := by rw [va_up_of (by decide)]; exact hc
    have pick : (if nI (2 + x) = 2 then Mo_rootOnce_213 N_m 0 (nI (2 + x)) p2 (oi a) (oi b) (va_up I 6 (wrs (5 * m) 5 (I 6) (arow (nI x) 0 0 0 0))) K1 u d (b2i (decide (R0.toInt ≤ 99 ∧ R1.toInt ≤ 99))) 0 1 else Mo_rootOnce_213 N_m 0 (nI (2 + x)) p2 (oi a) (oi b) (va_up I 6 (wrs (5 * m) 5 (I 6) (arow (nI x) 0 0 0 0))) K1 u d (b2i (decide (R0.toInt ≤ 99 ∧ R1.toInt ≤ 99))) 0 3) = Mo_rootOnce_213 N_m 0 (nI (2 + x)) p2 (oi a) (oi b) (va_up I 6 (wrs (5 * m) 5 (I 6) (arow (nI x) 0 0 0 0))) K1 u d (b2i (decide (R0.toInt ≤ 99 ∧ R1.toInt ≤ 99))) 0 (nI (if x = 0 then 1 else 3)) := by
      rcases (show x = 0 ∨ x = 1 by omega) with rfl | rfl
      · rw [if_pos (show nI (2 + 0) = 2 from rfl), if_pos rfl]; rfl
      · rw [if_neg (show ¬ nI (2 + 1) = 2 by decide), if_neg (by decide)]; rfl
    rw [pick, r213 _ _ (by by_cases e : x = 0 <;> simp only [e, if_true, if_false] <;> omega) h8, va_up_at, va_up_va]
  · rw [if_neg hh]
    exact ⟨_, K2, rfl, fun q hq => va_up_of hq, kf2⟩
  · rw [if_pos hh]
    refine ⟨K2, ?_, kf2⟩
    unfold Mo_rootOnce_241 Mo_rootOnce_262
    rw [if_neg (by decide)]
    have lays : ∀ o, o < 4 → ∀ (I6 : Nat → Int32), bn1 (Mo_lays K2 N_m 0 (nI o) (va_up I 6 I6)) (fun I1 => bd (up2 I1 0 8 (I1 0 8 + 1)) (fun I3 => some (I3, K2, (0 : Int32)))) = some (up2 (va_up I 6 (va_up (va_up I6 (5 * m + o) d.toInt32) (5 * m + o + 1) u.toInt32)) 0 8 (nI (m + 1)), K2, 0) := by
      intro o ho I6
      rw [Mo_lays_s (m := m) hm ho (by rw [va_up_of (by decide)]; exact hc), bn1_s, bd_e, va_up_at, va_up_va, va_up_of (show (0 : Nat) ≠ 6 by decide), hc, nI_1, k29, k210]
    rcases (show x = 0 ∨ x = 1 by omega) with rfl | rfl
    · rw [if_pos (show nI (2 + 0) = 2 from rfl), if_pos rfl]
      refine (lays 3 (by decide) _).trans ?_
      rw [lay_1, lay_3]
      rfl
    · rw [if_neg (show ¬ nI (2 + 1) = 2 by decide), if_neg (by decide)]
      refine (lays 1 (by decide) _).trans ?_
      rw [lay_3, lay_1b]
      rfl
