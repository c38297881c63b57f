theorem in19 (p : Int32) : Mo_in p.toInt64 1 9 = some (b2i (decide (1 ≤ p.toInt ∧ p.toInt ≤ 9))) := by
  rw [Mo_in_s, Int32.toInt_toInt64, show (1 : Int64).toInt = 1 from rfl, show (9 : Int64).toInt = 9 from rfl]
theorem pev_pod {z : Nat → Bool} (h : pod z = true) : pev z = false := by
  rw [pod_e] at h
  rw [pev_e]
  cases h1 : ev z <;> cases h2 : od z <;> simp [h1, h2] at h ⊢
theorem work_s {w : Nat → Bool} {J : HJ} {v : Nat → Int32} {u d : Int32} (hu : 1 ≤ u.toInt ∧ u.toInt ≤ 9) (hd : 1 ≤ d.toInt ∧ d.toInt ≤ 9) (hW : RW (J (ab w 1 + 1)) (J (be w 1 + 1)) v) (hl : lawf (zl (J (ab w 1 + 1))) (zl (J (be w 1 + 1))) = true) : ∃ J' : HJ, (Re_workOut (nn w) 89 1 u d J = if tv (wB v) u.toInt64 d.toInt64 7 = 0 then some (J', 0) else some (up2 (up2 J' 92 0 ((if pod (zl (J (be w 1 + 1))) = true then 0 - tv (wA v) u.toInt64 d.toInt64 7 else tv (wA v) u.toInt64 d.toInt64 7) / fg (if pod (zl (J (be w 1 + 1))) = true then 0 - tv (wA v) u.toInt64 d.toInt64 7 else tv (wA v) u.toInt64 d.toInt64 7) (tv (wB v) u.toInt64 d.toInt64 7))) 92 1 (tv (wB v) u.toInt64 d.toInt64 7 / fg (if pod (zl (J (be w 1 + 1))) = true then 0 - tv (wA v) u.toInt64 d.toInt64 7 else tv (wA v) u.toInt64 d.toInt64 7) (tv (wB v) u.toInt64 d.toInt64 7)), 1)) ∧ ∀ a, a ≠ 91 → J' a = J a := by
  have q1 := ab_be (w := w) (p := 1)
  have lu : lb u.toInt64 9 := lb_32 (by omega)
  have ld : lb d.toInt64 9 := lb_32 (by omega)
  have hd1 : 1 ≤ d.toInt64.toInt := by rw [Int32.toInt_toInt64]; exact hd.1
  have lA : lb (tv (wA v) u.toInt64 d.toInt64 7) (7 * (9 * 9 ^ 6)) := lb_tv lu ld (fun k hk => lb_32 (by have := hW.2.2 k (by omega); omega)) 7 (Nat.le_refl 7)
  have lB : lb (tv (wB v) u.toInt64 d.toInt64 7) (7 * (9 * 9 ^ 6)) := lb_tv lu ld (fun k hk => lb_32 (by have := hW.2.2 (7 + k) (by omega); omega)) 7 (Nat.le_refl 7)
  have zy : ∀ {t : Int64}, lb t (7 * (9 * 9 ^ 6)) → (t * d.toInt64 = 0 ↔ t = 0) := by
    intro t ht
    constructor
    · intro q
      have := congrArg Int64.toInt q
      rw [mul_i ht ld (by decide), show (0 : Int64).toInt = 0 from rfl] at this
      rcases Int.mul_eq_zero.mp this with h | h
      · exact Int64.toInt_inj.mp (h.trans rfl)
      · omega
    · rintro rfl; exact Int64.zero_mul
  have pA := isPa_ab pa_1 w
  have pB := isPa_be pa_1 w
  unfold Re_workOut Re_workOut_0
  rw [pa_1' pa_1, Po_isOfParity_1s pB, bn1_s]
  cases hp : pod (zl (J (be w 1 + 1))) with
  | true =>
    have hpa : pev (zl (J (ab w 1 + 1))) = true := by
      unfold lawf at hl
      rw [hp, pev_pod hp, Bool.and_true, Bool.and_false, Bool.or_false] at hl
      exact hl
    unfold Re_workOut_27 Re_workOut_55 Re_workOut_78
    rw [if_neg b2i_t, pa_0 pa_1, half_s pA (by omega), bn2_s, bd_e, if_neg b2i_t, pa_1' pa_1, half_s pB (by omega), bn2_s, bd_e, if_neg b2i_t, if_neg b2i_t, nv_89_1]
    rw [va_up_of (show be w 1 + 1 ≠ 91 by omega), half_ev (F := wA v) hu hd hW.1 hpa, half_od (F := wB v) hu hd hW.2.1 hp]
    refine ⟨va_up (va_up J 91 (wrk 7 (J 91) (fun i => pat (J (ab w 1 + 1)) (0 + 2 * nI i)))) 91 (wrk 7 (va_up J 91 (wrk 7 (J 91) (fun i => pat (J (ab w 1 + 1)) (0 + 2 * nI i))) 91) (fun i => pat (J (be w 1 + 1)) (1 + 2 * nI i))), ?_, fun a ha => ?_⟩
    rotate_left
    · rw [va_up_of ha, va_up_of ha]
    · rw [if_pos rfl]
      by_cases e : tv (wB v) u.toInt64 d.toInt64 7 = 0
      · rw [if_pos ((zy lB).mpr e), if_pos e]
      · rw [if_neg (fun q => e ((zy lB).mp q)), if_neg e, show -(tv (wA v) u.toInt64 d.toInt64 7 * d.toInt64) = (0 - tv (wA v) u.toInt64 d.toInt64 7) * d.toInt64 by grind, fr_scale (lb_neg lA (by decide)) lB ld hd1 (by decide) e, bn1_s]
  | false =>
    have hpb : pod (zl (J (ab w 1 + 1))) = true ∧ pev (zl (J (be w 1 + 1))) = true := by
      unfold lawf at hl
      rw [hp, Bool.and_false, Bool.false_or, Bool.and_eq_true] at hl
      exact hl
    unfold Re_workOut_27 Re_workOut_55 Re_workOut_78
    rw [if_pos b2i_f, pa_1' pa_1, half_s pB (by omega), bn2_s, bd_e, if_pos b2i_f, pa_0 pa_1, half_s pA (by omega), bn2_s, bd_e, if_pos b2i_f, if_pos b2i_f, nv_89_1]
    rw [va_up_of (show ab w 1 + 1 ≠ 91 by omega), half_ev (F := wB v) hu hd hW.2.1 hpb.2, half_od (F := wA v) hu hd hW.1 hpb.1]
    refine ⟨va_up (va_up J 91 (wrk 7 (J 91) (fun i => pat (J (be w 1 + 1)) (0 + 2 * nI i)))) 91 (wrk 7 (va_up J 91 (wrk 7 (J 91) (fun i => pat (J (be w 1 + 1)) (0 + 2 * nI i))) 91) (fun i => pat (J (ab w 1 + 1)) (1 + 2 * nI i))), ?_, fun a ha => ?_⟩
    rotate_left
    · rw [va_up_of ha, va_up_of ha]
    · rw [if_neg (show ¬ false = true from Bool.noConfusion)]
      by_cases e : tv (wB v) u.toInt64 d.toInt64 7 = 0
      · rw [if_pos ((zy lB).mpr e), if_pos e]
      · rw [if_neg (fun q => e ((zy lB).mp q)), if_neg e, fr_scale lA lB ld hd1 (by decide) e, bn1_s]
theorem fg_ne {a b : Int64} {n : Nat} (ha : lb a n) (hb : lb b n) (hn : n < 2 ^ 63) (h : ¬ b = 0) : ¬ fg a b = 0 := by
  have bne : b.toInt ≠ 0 := fun q => h (Int64.toInt_inj.mp (q.trans rfl))
  have gpos : 0 < Nat.gcd a.toInt.natAbs b.toInt.natAbs := Nat.gcd_pos_of_pos_right _ (by omega)
  have gle : Nat.gcd a.toInt.natAbs b.toInt.natAbs ≤ n := Nat.le_trans (Nat.gcd_le_right _ (by omega)) hb
  have gi : (gl a b).toInt = (Nat.gcd a.toInt.natAbs b.toInt.natAbs : Int) := pk_lT (by omega)
  have lg : lb (gl a b) n := by unfold lb; rw [gi]; exact gle
  intro q
  have := congrArg Int64.toInt q
  unfold fg at this
  rw [show (0 : Int64).toInt = 0 from rfl] at this
  split at this
  · rw [gi] at this; omega
  · rw [neg_i lg hn, gi] at this; omega
theorem srt_1 {z : Nat → Bool} : (srt (ev z) (od z) = 1) ↔ pod z = true := by
  rw [pod_e]
  cases ev z <;> cases od z <;> decide
/-- what reactance leaves as it was -/
theorem reactance_ok {w : Nat → Bool} {I2 : HI} {J : HJ} (hW : RW (J (ab w 1 + 1)) (J (be w 1 + 1)) (I2 4)) (u d q : Int32) : ∃ (J' : HJ) (r : Int64), Lm_reactance (nn w) 0 u d q J = some (J', r) ∧ Mo_reactance I2 N_m 0 u d q = some r ∧ ∀ a, a < 91 → J' a = J a := by
  unfold Lm_reactance Lm_reactance_0 Mo_reactance Mo_reactance_0 Lm_reactance_31 Lm_reactance_63 Mo_reactance_41
  rw [in19, bn1_s, in19, bn1_s, Mo_isTwo_s, bn1_s]
  have i1 : (1 : Int32).toInt = 1 := rfl
  have i9 : (9 : Int32).toInt = 9 := rfl
  have bad : ∃ (J' : HJ) (r : Int64), (bn1 (Lm_asLong (-2)) fun r1 => some (J, r1)) = some (J', r) ∧ (bn1 (Mo_no (-2)) fun r1 => some r1) = some r ∧ ∀ a, a < 91 → J' a = J a := ⟨J, _, rfl, rfl, fun _ _ => rfl⟩
  by_cases hu : 1 ≤ u.toInt ∧ u.toInt ≤ 9
  · rw [decide_eq_true hu, if_neg b2i_t, if_neg (fun h => by rw [Int32.lt_iff_toInt_lt, i1] at h; omega), if_neg (fun h => by rw [Int32.lt_iff_toInt_lt, i9] at h; omega)]
    by_cases hd : 1 ≤ d.toInt ∧ d.toInt ≤ 9
    · rw [decide_eq_true hd, if_neg b2i_t, if_neg (fun h => by rw [Int32.lt_iff_toInt_lt, i1] at h; omega), if_neg (fun h => by rw [Int32.lt_iff_toInt_lt, i9] at h; omega)]
      by_cases hq : q = 0 ∨ q = 1
      · rw [decide_eq_true hq, if_neg b2i_t, if_neg (by rcases hq with rfl | rfl <;> decide), if_pos (by rcases hq with rfl | rfl <;> decide), nv_0_0, Pa_isLawful_s pa_1, bn1_s]
        unfold Mo_reactanceBy Mo_reactanceBy_0
        rw [Mo_isLawful_s, bn1_s, ← lawf_congr (fun j hj => RW_za hW hj) (fun j hj => RW_zb hW hj)]
        cases hl : lawf (zl (J (ab w 1 + 1))) (zl (J (be w 1 + 1))) with
        | false =>
          rw [if_pos b2i_f, if_pos b2i_f]
          exact ⟨J, _, rfl, rfl, fun _ _ => rfl⟩
        | true =>
          obtain ⟨J', h1, h2⟩ := work_s hu hd hW hl
          have lu : lb u.toInt64 9 := lb_32 (by omega)
          have ld : lb d.toInt64 9 := lb_32 (by omega)
          have lA : lb (tv (wA (I2 4)) u.toInt64 d.toInt64 7) (7 * (9 * 9 ^ 6)) := lb_tv lu ld (fun k hk => lb_32 (by have := hW.2.2 k (by omega); omega)) 7 (Nat.le_refl 7)
          have lB : lb (tv (wB (I2 4)) u.toInt64 d.toInt64 7) (7 * (9 * 9 ^ 6)) := lb_tv lu ld (fun k hk => lb_32 (by have := hW.2.2 (7 + k) (by omega); omega)) 7 (Nat.le_refl 7)
          have tA : Mo_turnedValue I2 N_m 0 0 u d = some (tv (wA (I2 4)) u.toInt64 d.toInt64 7) := by
            have := Mo_turnedValue_s (I := I2) (p := 0) (u := u) (d := d) (by decide)
            rw [show (fun k => (I2 4 (7 * 0 + k)).toInt64) = wA (I2 4) from by funext k; unfold wA; rw [Nat.mul_zero, Nat.zero_add]] at this
            exact this
          have tB : Mo_turnedValue I2 N_m 0 1 u d = some (tv (wB (I2 4)) u.toInt64 d.toInt64 7) := Mo_turnedValue_s (I := I2) (p := 1) (u := u) (d := d) (by decide)
          have tS : Mo_sort I2 N_m 0 1 = some (srt (ev (zi (I2 4) 1)) (od (zi (I2 4) 1))) := Mo_sort_s (p := 1) (by decide)
          have zz : zi (I2 4) 1 = zi (I2 4) 1 := rfl
          have podc : pod (zi (I2 4) 1) = pod (zl (J (be w 1 + 1))) := by
            unfold pod
            rw [← RW_zb hW (show 0 < 7 by decide), ← RW_zb hW (show 1 < 7 by decide), ← RW_zb hW (show 2 < 7 by decide), ← RW_zb hW (show 3 < 7 by decide), ← RW_zb hW (show 4 < 7 by decide), ← RW_zb hW (show 5 < 7 by decide), ← RW_zb hW (show 6 < 7 by decide)]
          rw [if_neg b2i_t, if_neg b2i_t, nv_0_7, nv_0_0, h1, tA, bn1_s, tB, bn1_s, tS, bn1_s]
          by_cases e : tv (wB (I2 4)) u.toInt64 d.toInt64 7 = 0
          · rw [if_pos e, if_pos e, bn2_s, if_pos rfl]
            exact ⟨J', _, rfl, rfl, fun a ha => h2 a (by omega)⟩
          · rw [if_neg e, if_neg e, bn2_s, if_neg (by decide), nv_0_7, nv_89_1, nv_0_7, nv_89_1]
            have fin : ∀ t : Int64, lb t (7 * (9 * 9 ^ 6)) → ∃ (J'' : HJ) (r : Int64), (if q = 0 then some (up2 (up2 J' 92 0 (t / fg t (tv (wB (I2 4)) u.toInt64 d.toInt64 7))) 92 1 (tv (wB (I2 4)) u.toInt64 d.toInt64 7 / fg t (tv (wB (I2 4)) u.toInt64 d.toInt64 7)), up2 (up2 J' 92 0 (t / fg t (tv (wB (I2 4)) u.toInt64 d.toInt64 7))) 92 1 (tv (wB (I2 4)) u.toInt64 d.toInt64 7 / fg t (tv (wB (I2 4)) u.toInt64 d.toInt64 7)) 92 0) else some (up2 (up2 J' 92 0 (t / fg t (tv (wB (I2 4)) u.toInt64 d.toInt64 7))) 92 1 (tv (wB (I2 4)) u.toInt64 d.toInt64 7 / fg t (tv (wB (I2 4)) u.toInt64 d.toInt64 7)), up2 (up2 J' 92 0 (t / fg t (tv (wB (I2 4)) u.toInt64 d.toInt64 7))) 92 1 (tv (wB (I2 4)) u.toInt64 d.toInt64 7 / fg t (tv (wB (I2 4)) u.toInt64 d.toInt64 7)) 92 1)) = some (J'', r) ∧ (bn1 (Mo_reactanceBy_62 I2 N_m 0 u d q (tv (wB (I2 4)) u.toInt64 d.toInt64 7) t) fun r10 => some r10) = some r ∧ ∀ a, a < 91 → J'' a = J a := by
              intro t lt
              have ne := fg_ne lt lB (by decide) e
              have c62 : Mo_reactanceBy_62 I2 N_m 0 u d q (tv (wB (I2 4)) u.toInt64 d.toInt64 7) t = Mo_reactanceBy_89 I2 N_m 0 u d q t (tv (wB (I2 4)) u.toInt64 d.toInt64 7) (fg t (tv (wB (I2 4)) u.toInt64 d.toInt64 7)) := by
                unfold Mo_reactanceBy_62 fg
                rw [Mo_divisor_s (lb_nm lt (by decide)) (lb_nm lB (by decide)), bn1_s]
                split <;> rfl
              rw [c62]
              unfold Mo_reactanceBy_89
              rw [gd_of (decide_eq_true ne), gd_of (decide_eq_true ne), up2_at, up2_at, va_up_at, va_up_of (show (0 : Nat) ≠ 1 by decide), va_up_at]
              have fr : ∀ x y : Int64, ∀ a, a < 91 → up2 (up2 J' 92 0 x) 92 1 y a = J a := fun x y a ha => by rw [up2_of (by omega), up2_of (by omega), h2 a (by omega)]
              by_cases q0 : q = 0
              · rw [if_pos q0, if_pos q0]
                exact ⟨_, _, rfl, rfl, fr _ _⟩
              · rw [if_neg q0, if_neg q0]
                exact ⟨_, _, rfl, rfl, fr _ _⟩
            by_cases hpd : pod (zl (J (be w 1 + 1))) = true
            · rw [if_pos hpd, if_pos (srt_1.mpr (podc.trans hpd))]
              exact fin _ (lb_neg lA (by decide))
            · rw [if_neg hpd, if_neg (fun h => hpd (podc ▸ srt_1.mp h))]
              exact fin _ lA
      · rw [decide_eq_false hq, if_pos b2i_f]
        have : q < 0 ∨ ¬ q ≤ 1 := by
          by_cases h0 : q < 0
          · exact Or.inl h0
          · refine Or.inr (fun h1 => hq ?_)
            rw [Int32.lt_iff_toInt_lt, i32_0] at h0
            rw [Int32.le_iff_toInt_le, i1] at h1
            rcases (show q.toInt = 0 ∨ q.toInt = 1 by omega) with h | h
            · exact Or.inl (Int32.toInt_inj.mp (h.trans rfl))
            · exact Or.inr (Int32.toInt_inj.mp (h.trans rfl))
        rcases this with h | h
        · rw [if_pos h]; exact bad
        · by_cases h0 : q < 0
          · rw [if_pos h0]; exact bad
          · rw [if_neg h0, if_neg h]; exact bad
    · rw [decide_eq_false hd, if_pos b2i_f]
      by_cases h1 : d < 1
      · rw [if_pos h1]; exact bad
      · rw [if_neg h1, if_pos (show (9 : Int32) < d from Int32.lt_iff_toInt_lt.mpr (by rw [Int32.lt_iff_toInt_lt, i1] at h1; rw [i9]; omega))]; exact bad
  · rw [decide_eq_false hu, if_pos b2i_f]
    by_cases h1 : u < 1
    · rw [if_pos h1]; exact bad
    · rw [if_neg h1, if_pos (show (9 : Int32) < u from Int32.lt_iff_toInt_lt.mpr (by rw [Int32.lt_iff_toInt_lt, i1] at h1; rw [i9]; omega))]; exact bad
