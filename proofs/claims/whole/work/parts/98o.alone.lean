/-- the reference lays one value alone -/
theorem malone {p x m o : Nat} {I : HI} {J : HJ} {gn hn : Int64} (hp : p < 2) (hxx : x < 2) (hm : m < 8) (hc : I 0 8 = nI m) (ho : o = if p = x then 1 else 3) (lg : lb gn 9) (lh : lb hn 9) (g0 : ¬ gn = 0) (h0 : ¬ hn = 0) :
    (¬ 0 < (gn / fg gn hn).toInt → Mo_alone N_m 0 (nI (2 + x)) (nI o) (nI p) gn hn I J = some (I, J, -100 - nI p)) ∧
    (0 < (gn / fg gn hn).toInt → ¬ ((gn / fg gn hn).toInt ≤ 99 ∧ (hn / fg gn hn).toInt ≤ 99) → ∃ J' : HJ, Mo_alone N_m 0 (nI (2 + x)) (nI o) (nI p) gn hn I J = some (I, J', -5) ∧ ∀ q, q ≠ 0 → J' q = J q) ∧
    (0 < (gn / fg gn hn).toInt → ((gn / fg gn hn).toInt ≤ 99 ∧ (hn / fg gn hn).toInt ≤ 99) → ∃ J' : HJ, Mo_alone N_m 0 (nI (2 + x)) (nI o) (nI p) gn hn I J = some (up2 (va_up I 6 (wrs (5 * m) 5 (I 6) (xrow p x (gn / fg gn hn) (hn / fg gn hn)))) 0 8 (nI (m + 1)), J', 0) ∧ ∀ q, q ≠ 0 → J' q = J q) := by
  obtain ⟨f1, f2, f3⟩ := fg_low lg lh (by decide) h0
  obtain ⟨u, hu⟩ : ∃ u, u = gn / fg gn hn := ⟨_, rfl⟩
  obtain ⟨d, hd⟩ : ∃ d, d = hn / fg gn hn := ⟨_, rfl⟩
  rw [← hd] at f1
  rw [← hu, ← hd] at f2 f3
  rw [← hu, ← hd]
  have gz := i64_ne.mp g0
  have hz := i64_ne.mp h0
  have le0 : ∀ y : Int64, (0 : Int64) ≤ y ↔ 0 ≤ y.toInt := fun y => le_i
  have sgn : 0 < u.toInt ↔ (0 ≤ gn.toInt ↔ 0 ≤ hn.toInt) := by
    constructor
    · intro q
      constructor
      · intro z
        have := Int.mul_pos f1 (show 0 < gn.toInt by omega)
        rw [← f2] at this
        have := Int.pos_of_mul_pos_right this (by omega)
        omega
      · intro z
        have := Int.mul_pos q (show 0 < hn.toInt by omega)
        rw [f2] at this
        have := Int.pos_of_mul_pos_right this (by omega)
        omega
    · intro q
      by_cases z : 0 ≤ hn.toInt
      · have g1 : 0 < gn.toInt := by have := q.mpr z; omega
        have := Int.mul_pos f1 g1
        rw [← f2, Int.mul_comm] at this
        exact Int.pos_of_mul_pos_right this (by omega)
      · have g1 : gn.toInt < 0 := by
          have : ¬ 0 ≤ gn.toInt := fun y => z (q.mp y)
          omega
        have h1 : hn.toInt < 0 := by omega
        have := Int.mul_pos f1 (show 0 < -gn.toInt by omega)
        rw [Int.mul_neg, ← f2, ← Int.mul_neg, Int.mul_comm] at this
        exact Int.pos_of_mul_pos_right this (by omega)
  have st : Mo_alone N_m 0 (nI (2 + x)) (nI o) (nI p) gn hn I J = if 0 < u.toInt then (if p = 0 then Mo_alone_62 N_m 0 (nI (2 + x)) (nI o) (nI p) gn hn I J 0 gn hn else Mo_alone_62 N_m 0 (nI (2 + x)) (nI o) (nI p) gn hn I J 0 hn gn) else some (I, J, -100 - nI p) := by
    have inner : (if nI p = 0 then Mo_alone_51 N_m 0 (nI (2 + x)) (nI o) (nI p) gn hn I J 0 gn else Mo_alone_51 N_m 0 (nI (2 + x)) (nI o) (nI p) gn hn I J 0 hn) = (if p = 0 then Mo_alone_62 N_m 0 (nI (2 + x)) (nI o) (nI p) gn hn I J 0 gn hn else Mo_alone_62 N_m 0 (nI (2 + x)) (nI o) (nI p) gn hn I J 0 hn gn) := by
      unfold Mo_alone_51
      rcases (show p = 0 ∨ p = 1 by omega) with rfl | rfl
      · rw [if_pos (by decide), if_pos (by decide), if_pos rfl]
      · rw [if_neg (by decide), if_neg (by decide), if_neg (by decide)]
    unfold Mo_alone Mo_alone_0 Mo_alone_19 Mo_alone_31 Mo_alone_34
    rw [if_neg g0, inner]
    by_cases c1 : 0 ≤ gn.toInt
    · rw [if_pos ((le0 gn).mpr c1)]
      by_cases c2 : 0 ≤ hn.toInt
      · rw [if_pos ((le0 hn).mpr c2), if_pos rfl, if_pos (sgn.mpr ⟨fun _ => c2, fun _ => c1⟩)]
      · rw [if_neg (fun q => c2 ((le0 hn).mp q)), if_neg (by decide), if_neg (fun q => c2 ((sgn.mp q).mp c1))]
    · rw [if_neg (fun q => c1 ((le0 gn).mp q))]
      by_cases c2 : 0 ≤ hn.toInt
      · rw [if_pos ((le0 hn).mpr c2), if_neg (by decide), if_neg (fun q => c1 ((sgn.mp q).mpr c2))]
      · rw [if_neg (fun q => c2 ((le0 hn).mp q)), if_pos rfl, if_pos (sgn.mpr ⟨fun q => absurd q c1, fun q => absurd q c2⟩)]
  rw [st]
  refine ⟨fun q => if_neg q, fun q nh => ?_, fun q yh => ?_⟩
  all_goals
    rw [if_pos q]
    have tk : (if p = 0 then Mo_alone_62 N_m 0 (nI (2 + x)) (nI o) (nI p) gn hn I J 0 gn hn else Mo_alone_62 N_m 0 (nI (2 + x)) (nI o) (nI p) gn hn I J 0 hn gn) = bn1 (some (up2 (up2 J 0 9 (if p = 0 then u else d)) 0 10 (if p = 0 then d else u))) (fun J1 => bn1 (Mo_isHandy J1 0) (fun r3 => if r3 = 0 then some (I, J1, -5) else bn1 (Mo_makes N_m 0 (nI (2 + x) - 2) I) (fun I6 => bn1 (Mo_lays J1 N_m 0 (nI o) I6) (fun I8 => bd (up2 I8 0 8 (I8 0 8 + 1)) (fun I10 => some (I10, J1, 0)))))) := by
      rcases (show p = 0 ∨ p = 1 by omega) with rfl | rfl
      · rw [if_pos rfl, if_pos rfl, if_pos rfl]
        unfold Mo_alone_62
        rw [Mo_takes_s lg lh (by decide) h0, ← hu, ← hd]
      · rw [if_neg (by decide), if_neg (by decide), if_neg (by decide)]
        unfold Mo_alone_62
        rw [Mo_takes_s lh lg (by decide) g0]
        obtain ⟨k1, k2, k3⟩ := fg_low lh lg (by decide) g0
        obtain ⟨a1, a2⟩ := low_uni k1 q k3 (by rw [Nat.gcd_comm]; exact f3) (by
          apply Int.eq_of_mul_eq_mul_right gz
          generalize (hn / fg hn gn).toInt = y1 at *
          generalize (gn / fg hn gn).toInt = y2 at *
          have : y1 * u.toInt * gn.toInt = (y1 * gn.toInt) * u.toInt := by grind
          rw [this, k2]
          have : d.toInt * y2 * gn.toInt = (d.toInt * gn.toInt) * y2 := by grind
          rw [this, ← f2]; grind)
        rw [Int64.toInt_inj.mp a1, Int64.toInt_inj.mp a2]
    rw [tk, bn1_s]
    obtain ⟨K1, hK1⟩ : ∃ K1 : HJ, K1 = up2 (up2 J 0 9 (if p = 0 then u else d)) 0 10 (if p = 0 then d else u) := ⟨_, rfl⟩
    rw [← hK1]
    have k9 : K1 0 9 = if p = 0 then u else d := by rw [hK1, up2_at, va_up_of (by decide), up2_at, va_up_at]
    have k10 : K1 0 10 = if p = 0 then d else u := by rw [hK1, up2_at, va_up_at]
    have kf : ∀ a, a ≠ 0 → K1 a = J a := fun a a0 => by rw [hK1, up2_of a0, up2_of a0]
    have hnd : decide ((K1 0 9).toInt ≤ 99 ∧ (K1 0 10).toInt ≤ 99) = decide (u.toInt ≤ 99 ∧ d.toInt ≤ 99) := by
      rw [k9, k10]
      by_cases e : p = 0
      · rw [if_pos e, if_pos e]
      · rw [if_neg e, if_neg e]
        exact decide_eq_decide.mpr ⟨fun q => ⟨q.2, q.1⟩, fun q => ⟨q.2, q.1⟩⟩
    rw [Mo_isHandy_s, bn1_s, hnd]
  · rw [decide_eq_false nh, if_pos b2i_f]
    exact ⟨K1, rfl, kf⟩
  · have g1 : (K1 0 9).toInt32 = gx p u d := by rw [k9]; unfold gx; by_cases e : p = 0 <;> simp only [e, if_true, if_false]
    have g2 : (K1 0 10).toInt32 = hx p u d := by rw [k10]; unfold hx; by_cases e : p = 0 <;> simp only [e, if_true, if_false]
    rw [decide_eq_true yh, if_neg b2i_t, show nI (2 + x) - 2 = nI x from by rw [show (2 : Int32) = nI 2 from rfl, nI_sub (by omega)]; congr 1; omega, Mo_makes_s hm hc, bn1_s, Mo_lays_s (m := m) hm (by rw [ho]; by_cases e : p = x <;> simp only [e, if_true, if_false] <;> omega) (by rw [va_up_of (by decide)]; exact hc), bn1_s, bd_e, va_up_at, va_up_va, va_up_of (show (0 : Nat) ≠ 6 by decide), hc, nI_1, g1, g2]
    have er : va_up (va_up (wrs (5 * m) 5 (I 6) (arow (nI x) 0 0 0 0)) (5 * m + o) (gx p u d)) (5 * m + o + 1) (hx p u d) = wrs (5 * m) 5 (I 6) (xrow p x u d) := by
      unfold xrow
      by_cases e : p = x
      · rw [if_pos e] at ho ⊢; subst ho; exact lay_1
      · rw [if_neg e] at ho ⊢; subst ho; exact lay_3
    rw [er]
    exact ⟨K1, rfl, kf⟩
