/-- what ways 0 and 1 leave as it was -/
def fV (w w' : Nat → Bool) (I I' : HI) (J J' : HJ) (I2 I2' : HI) (J2 J2' : HJ) : Prop := (∀ a, a ≠ 39 → w' a = w a) ∧ (∀ a, a < 31 ∨ a = 32 ∨ 38 < a → I' a = I a) ∧ (∀ r, r ≠ 41 → r ≠ 43 → r ≠ 51 → J' r = J r) ∧ (∀ a, a ≠ 0 → a ≠ 6 → I2' a = I2 a) ∧ (∀ k, k ≠ 8 → I2' 0 k = I2 0 k) ∧ fJ J2 J2'
theorem fV_tr {w w' w'' : Nat → Bool} {I I' I'' : HI} {J J' J'' : HJ} {I2 I2' I2'' : HI} {J2 J2' J2'' : HJ} (h : fV w w' I I' J J' I2 I2' J2 J2') (g : fV w' w'' I' I'' J' J'' I2' I2'' J2' J2'') : fV w w'' I I'' J J'' I2 I2'' J2 J2'' := ⟨fun a b => (g.1 a b).trans (h.1 a b), fun a b => (g.2.1 a b).trans (h.2.1 a b), fun a b c d => (g.2.2.1 a b c d).trans (h.2.2.1 a b c d), fun a b c => (g.2.2.2.1 a b c).trans (h.2.2.2.1 a b c), fun a b => (g.2.2.2.2.1 a b).trans (h.2.2.2.2.1 a b), fJ_tr h.2.2.2.2.2 g.2.2.2.2.2⟩
abbrev Ivm (p j : Nat) (w : Nat → Bool) (J J2 : HJ) : Prop := Iv j (fun i => (J (ab w 39 + 1) (sg p i)).toInt) (fun i => (J (be w 39 + 1) (sg p i)).toInt) (fun i => (J2 7 i).toInt) (fun i => (J2 8 i).toInt) (J2 0 13).toInt (J2 0 14).toInt
theorem sg_sg {p i : Nat} (hi : i < 7) : sg p (sg p i) = i := by
  unfold sg
  by_cases e : p = 0 <;> simp only [e, if_true, if_false] <;> omega
theorem code_neg {j : Nat} (hj : j < 7) : ¬ (0 : Int32) ≤ -100 - nI j := by
  rcases (show j = 0 ∨ j = 1 ∨ j = 2 ∨ j = 3 ∨ j = 4 ∨ j = 5 ∨ j = 6 by omega) with rfl | rfl | rfl | rfl | rfl | rfl | rfl <;> decide
theorem div_loop {p : Nat} (hp : p < 2) : ∀ (k j x n1 n2 : Nat) (w : Nat → Bool) (I : HI) (J : HJ) (I2 : HI) (J2 : HJ), k + j = 6 → k < n1 → k < n2 → x < 2 → Ivm p j w J J2 → RL j (I 31 1) (I2 0 8) (fun k => I (33 + k)) (I2 6) → vc (I2 6) j = j → ∃ (w' : Nat → Bool) (I' : HI) (J' : HJ) (I2' : HI) (J2' : HJ) (r : Int32), Un_divideOn_65 30 1 (nI (1 - p)) n1 I J (nn w) (sp p) (nI x) (nI j) = some (I', J', nn w', r) ∧ Mo_divides_122 N_m 0 (nI p) n2 I2 J2 (nI x) (nI j) = some (I2', J2', r) ∧ fV w w' I I' J J' I2 I2' J2 J2' ∧ (0 ≤ r → ∃ m, RL m (I' 31 1) (I2' 0 8) (fun k => I' (33 + k)) (I2' 6)) := by
  intro k
  induction k with
  | zero =>
    intro j x n1 n2 w I J I2 J2 hk h1 h2 hxx hI hL hv
    obtain rfl : j = 6 := by omega
    obtain ⟨m1, rfl⟩ : ∃ m, n1 = m + 1 := ⟨n1 - 1, by omega⟩
    obtain ⟨m2, rfl⟩ : ∃ m, n2 = m + 1 := ⟨n2 - 1, by omega⟩
    have z2 : ∀ i, i < 7 → J2 8 i = 0 := fun i hi => i64_e0.mpr (hI.zq i hi (by omega))
    have z1 : ∀ i, i < 7 → J (be w 39 + 1) i = 0 := fun i hi => by
      have := (hI.zQ (sg p i) (sg_lt hi)).mpr (i64_e0.mp (z2 _ (sg_lt hi)))
      have this : (J (be w 39 + 1) (sg p (sg p i))).toInt = 0 := this
      rw [sg_sg hi] at this
      exact i64_e0.mpr this
    refine ⟨w, I, J, I2, J2, nI (vc (I2 6) 6), ?_, ?_, ⟨fun _ _ => rfl, fun _ _ => rfl, fun _ _ _ _ => rfl, fun _ _ _ => rfl, fun _ _ => rfl, fun _ _ _ _ => rfl⟩, fun _ => ⟨6, hL⟩⟩
    · show Un_divideOn_65b 30 1 (nI (1 - p)) (Un_divideOn_65 30 1 (nI (1 - p)) m1) I J (nn w) (sp p) (nI x) (nI 6) = _
      unfold Un_divideOn_65b Un_divideOn_231
      rw [if_neg (by decide), nv_30_1, pa_1' pa_39, Po_degree_s (isPa_be pa_39 w), bn1_s, dgb_z 7 z1, if_pos rfl, nv_30_0, La_valueCount_s la_31 (by decide) hL.2.1 hL.2.2.2.1, bn1_s]
    · show Mo_divides_122b N_m 0 (nI p) (Mo_divides_122 N_m 0 (nI p) m2) I2 J2 (nI x) (nI 6) = _
      unfold Mo_divides_122b Mo_divides_168
      rw [if_neg (by decide), mv_12, Mo_top_s rfl, bn1_s, dgb_z 7 z2, if_pos rfl, mv_7, hL.2.2.1, Mo_valuesIn_s (by decide) (by decide) (by decide) hL.2.2.2.2.1, bn1_s]
  | succ k ih =>
    intro j x n1 n2 w I J I2 J2 hk h1 h2 hxx hI hL hv
    have hj : j < 6 := by omega
    obtain ⟨m1, rfl⟩ : ∃ m, n1 = m + 1 := ⟨n1 - 1, by omega⟩
    obtain ⟨m2, rfl⟩ : ∃ m, n2 = m + 1 := ⟨n2 - 1, by omega⟩
    have zz : ∀ i, i < 7 → (J (be w 39 + 1) (sg p i) = 0 ↔ J2 8 i = 0) := fun i hi => i64_e0.trans ((hI.zQ i hi).trans i64_e0.symm)
    have zp : ∀ i, i < 7 → (J (ab w 39 + 1) (sg p i) = 0 ↔ J2 7 i = 0) := fun i hi => i64_e0.trans ((hI.zP i hi).trans i64_e0.symm)
    have n6' : ¬ (6 : Int32) < nI j := fun q => by rw [show (6 : Int32) = nI 6 from rfl, nI_ltI (by decide) (by omega)] at q; omega
    have n8' : ¬ (8 : Int32) ≤ nI j := nI_ge (a := j) (b := 8) (by omega) (by decide)
    by_cases hz : ∃ i, i < 7 ∧ ¬ J2 8 i = 0
    · obtain ⟨t, ht⟩ := top_ex 7 (by decide) (fun i a b => by omega) hz
      obtain ⟨i0, hi0, hne0⟩ := hI.np
      obtain ⟨s, hs⟩ := top_ex (f := J2 7) 7 (by decide) (fun i a b => by omega) ⟨i0, hi0, i64_ne.mpr hne0⟩
      have hQ : tp7 (fun i => J (be w 39 + 1) (sg p i)) t := ⟨ht.1, fun q => ht.2.1 ((zz t ht.1).mp q), fun i a b => (zz i b).mpr (ht.2.2 i a b)⟩
      have hP : tp7 (fun i => J (ab w 39 + 1) (sg p i)) s := ⟨hs.1, fun q => hs.2.1 ((zp s hs.1).mp q), fun i a b => (zp i b).mpr (hs.2.2 i a b)⟩
      have dg : ¬ dgb 7 (zl (J2 8)) = -1 := by
        rw [dgb_tp ht]
        intro q
        have := congrArg Int32.toInt q
        rw [nI_toInt (by have := ht.1; omega), show (-1 : Int32).toInt = -1 from rfl] at this
        omega
      have mo : Mo_divides_122 N_m 0 (nI p) (m2 + 1) I2 J2 (nI x) (nI j) = bn3 (Mo_dividesOnce N_m 0 (nI p) (nI x) (nI j) I2 J2) (fun I6 J7 r8 => if r8 = 0 then bd ((1 : Int32) - nI x) (fun v11 => Mo_divides_122 N_m 0 (nI p) m2 I6 J7 v11 (nI j + 1)) else some (I6, J7, r8)) := by
        show Mo_divides_122b N_m 0 (nI p) (Mo_divides_122 N_m 0 (nI p) m2) I2 J2 (nI x) (nI j) = _
        unfold Mo_divides_122b
        rw [if_neg n8', mv_12, Mo_top_s rfl, bn1_s, if_neg dg]
      obtain ⟨u, d, J1, j0, j1, jf, d1, cop, cross, cl⟩ := cpre (x := x) (I := I) (K := Un_divideOn_65 30 1 (nI (1 - p)) m1) hp hj hQ (fun i hi => hI.cP i hi) (fun i hi => hI.cQ i hi)
      have cl' : Un_divideOn_65 30 1 (nI (1 - p)) (m1 + 1) I J (nn w) (sp p) (nI x) (nI j) = _ := cl s hP
      have bad : ∀ (K2 : HJ), fJ J2 K2 → Un_divideOn_65 30 1 (nI (1 - p)) (m1 + 1) I J (nn w) (sp p) (nI x) (nI j) = some (I, J1, nn w, -100 - nI j) → Mo_dividesOnce N_m 0 (nI p) (nI x) (nI j) I2 J2 = some (I2, K2, -100 - nI j) → ∃ (w' : Nat → Bool) (I' : HI) (J' : HJ) (I2' : HI) (J2' : HJ) (r : Int32), Un_divideOn_65 30 1 (nI (1 - p)) (m1 + 1) I J (nn w) (sp p) (nI x) (nI j) = some (I', J', nn w', r) ∧ Mo_divides_122 N_m 0 (nI p) (m2 + 1) I2 J2 (nI x) (nI j) = some (I2', J2', r) ∧ fV w w' I I' J J' I2 I2' J2 J2' ∧ (0 ≤ r → ∃ m, RL m (I' 31 1) (I2' 0 8) (fun k => I' (33 + k)) (I2' 6)) := by
        intro K2 hK a b
        refine ⟨w, I, J1, I2, K2, -100 - nI j, a, ?_, ⟨fun _ _ => rfl, fun _ _ => rfl, fun r _ _ h => jf r h, fun _ _ _ => rfl, fun _ _ => rfl, hK⟩, fun q => absurd q (code_neg (by omega))⟩
        rw [mo, b, bn3_s, if_neg (fun q => by have := code_neg (j := j) (by omega); rw [q] at this; exact this (by decide))]
      by_cases e1 : s = t + 1
      · subst e1
        have hs7 := hs.1
        obtain ⟨V, D, n, K, D0, VD, lV, lD, hn, hK, mb, mg⟩ := mstep_yes (p2 := nI x) (p3 := nI j) (I := I2) hp hj hI ht hs
        obtain ⟨sU0, sD0, sUl, sDl, sDq, inv, prim⟩ := hI.sc ⟨t, ht.1, i64_ne.mp ht.2.1⟩
        have Qt : (J (be w 39 + 1) (sg p t)).toInt ≠ 0 := i64_ne.mp hQ.2.1
        have qt : (J2 8 t).toInt ≠ 0 := i64_ne.mp ht.2.1
        have hud : u.toInt * ((J2 0 14).toInt * (J2 8 t).toInt) = d.toInt * ((J2 0 13).toInt * (J2 7 (t + 1)).toInt) := by
          have c1 := cross hs7
          have i1 : (J (ab w 39 + 1) (sg p (t + 1))).toInt * ((J2 0 14).toInt * (J2 8 t).toInt) = (J (be w 39 + 1) (sg p t)).toInt * ((J2 0 13).toInt * (J2 7 (t + 1)).toInt) := inv (t + 1) t hs7 ht.1
          apply Int.eq_of_mul_eq_mul_right Qt
          generalize (J (be w 39 + 1) (sg p t)).toInt = a1 at *
          generalize (J (ab w 39 + 1) (sg p (t + 1))).toInt = a2 at *
          generalize (J2 0 14).toInt * (J2 8 t).toInt = a3 at *
          generalize (J2 0 13).toInt * (J2 7 (t + 1)).toInt = a4 at *
          have : u.toInt * a3 * a1 = (u.toInt * a1) * a3 := by grind
          rw [this, c1]
          have : d.toInt * a2 * a3 = d.toInt * (a2 * a3) := by grind
          rw [this, i1]
          grind
        have sq0 : (J2 0 14).toInt * (J2 8 t).toInt ≠ 0 := Int.mul_ne_zero (by omega) qt
        have uD : u.toInt * D.toInt = d.toInt * V.toInt := by
          apply Int.eq_of_mul_eq_mul_right sq0
          have : u.toInt * D.toInt * ((J2 0 14).toInt * (J2 8 t).toInt) = (u.toInt * ((J2 0 14).toInt * (J2 8 t).toInt)) * D.toInt := by grind
          rw [this, hud]
          have : d.toInt * V.toInt * ((J2 0 14).toInt * (J2 8 t).toInt) = d.toInt * (V.toInt * ((J2 0 14).toInt * (J2 8 t).toInt)) := by grind
          rw [this, VD]
          grind
        have sgn : 0 < u.toInt ↔ 0 < V.toInt := by
          constructor
          · intro q
            have := Int.mul_pos q D0
            rw [uD] at this
            exact Int.pos_of_mul_pos_right this (by omega)
          · intro q
            have := Int.mul_pos d1 q
            rw [← uD, Int.mul_comm] at this
            exact Int.pos_of_mul_pos_right this (by omega)
        rw [if_pos rfl] at cl'
        by_cases e2 : 0 < u.toInt
        · rw [if_pos e2] at cl'
          have V0 := sgn.mp e2
          have mg := mg V0
          have low : (if p = 0 then V else D) / fg (if p = 0 then V else D) (if p = 0 then D else V) = (if p = 0 then u else d) ∧ (if p = 0 then D else V) / fg (if p = 0 then V else D) (if p = 0 then D else V) = if p = 0 then d else u := by
            rcases (show p = 0 ∨ p = 1 by omega) with rfl | rfl
            · rw [if_pos rfl, if_pos rfl, if_pos rfl, if_pos rfl]
              obtain ⟨f1, f2, f3⟩ := fg_low lV lD hn (i64_ne.mpr (by omega))
              obtain ⟨a1, a2⟩ := low_uni f1 d1 f3 cop (by
                apply Int.eq_of_mul_eq_mul_right (show D.toInt ≠ 0 by omega)
                generalize (V / fg V D).toInt = y1 at *
                generalize (D / fg V D).toInt = y2 at *
                have : y1 * d.toInt * D.toInt = (y1 * D.toInt) * d.toInt := by grind
                rw [this, f2]
                have : u.toInt * y2 * D.toInt = (u.toInt * D.toInt) * y2 := by grind
                rw [this, uD]; grind)
              exact ⟨Int64.toInt_inj.mp a1, Int64.toInt_inj.mp a2⟩
            · rw [if_neg (by decide), if_neg (by decide), if_neg (by decide), if_neg (by decide)]
              obtain ⟨f1, f2, f3⟩ := fg_low lD lV hn (i64_ne.mpr (by omega))
              obtain ⟨a1, a2⟩ := low_uni f1 e2 f3 (by rw [Nat.gcd_comm]; exact cop) (by
                apply Int.eq_of_mul_eq_mul_right (show V.toInt ≠ 0 by omega)
                generalize (D / fg D V).toInt = y1 at *
                generalize (V / fg D V).toInt = y2 at *
                have : y1 * u.toInt * V.toInt = (y1 * V.toInt) * u.toInt := by grind
                rw [this, f2]
                have : d.toInt * y2 * V.toInt = (d.toInt * V.toInt) * y2 := by grind
                rw [this, ← uD]; grind)
              exact ⟨Int64.toInt_inj.mp a1, Int64.toInt_inj.mp a2⟩
          have l1 : lb (if p = 0 then V else D) n := by by_cases e : p = 0 <;> simp only [e, if_true, if_false] <;> assumption
          have l2 : lb (if p = 0 then D else V) n := by by_cases e : p = 0 <;> simp only [e, if_true, if_false] <;> assumption
          have nn2 : ¬ (if p = 0 then D else V) = 0 := by
            by_cases e : p = 0
            · rw [if_pos e]; exact i64_ne.mpr (by omega)
            · rw [if_neg e]; exact i64_ne.mpr (by omega)
          obtain ⟨lay1, lay2⟩ := mlay (x := x) (I := I2) (K := K) (p3 := nI j) hp hxx hj hI ht hs7 hK hL.2.2.1 l1 l2 hn nn2 low.1 low.2
          by_cases e3 : u.toInt ≤ 99 ∧ d.toInt ≤ 99
          · rw [if_pos e3] at cl'
            obtain ⟨J2', c, m1', m2', m3', m4', m5', m6', m7'⟩ := lay2 e3
            obtain ⟨I', a1, a2, a3, a4⟩ := cadd (p := p) (x := x) (w := w) (A := I2 6) hp hxx hj j0 j1 hL hv e2 e3.1 d1 e3.2
            rw [a1, bn1_s] at cl'
            have rA : J1 (ab w 39 + 1) = J (ab w 39 + 1) := jf _ (by have := ab_be (w := w) (p := 39); omega)
            have rB : J1 (be w 39 + 1) = J (be w 39 + 1) := jf _ (by have := ab_be (w := w) (p := 39); omega)
            obtain ⟨J', G, b1, b2, b3, b4, b5⟩ := cgo (p := p) (x := x) (w := w) (I := I') (p1 := nI (1 - p)) (K := Un_divideOn_65 30 1 (nI (1 - p)) m1) hp hxx hj j0 j1 (by rw [rA]; exact fun i hi => hI.cP i hi) (by rw [rB]; exact fun i hi => hI.cQ i hi) (by rw [rB]; exact ⟨t, ht.1, hQ.2.1⟩) e2 e3.1 d1 e3.2
            rw [b1] at cl'
            rw [rA, rB] at b4
            rw [rB] at b3
            have st : Ivm p (j + 1) (va_up w 39 (!(w 39))) J' J2' := by
              have := Iv_step (A := fun i => (J' (be w 39 + 1) (sg p i)).toInt) (B := fun i => (J' (ab w 39 + 1) (sg p i)).toInt) (q' := fun i => (J2' 8 i).toInt) (sU' := (J2' 0 13).toInt) (sD' := (J2' 0 14).toInt) hI hs7 qt (fun i a b => i64_e0.mp (ht.2.2 i a b)) (i64_ne.mp hs.2.1) (fun i a b => i64_e0.mp (hs.2.2 i a b)) ⟨e2, e3.1⟩ ⟨d1, e3.2⟩ hud b2 b3 b4 (fun i hi => rfl) m4' m5' m6' m7'
              unfold Ivm
              rw [ab_swap, be_swap]
              have e7 : ∀ i, i < 7 → (J2' 7 i).toInt = (J2 8 i).toInt := fun i hi => by rw [m3' i hi]
              exact Iv.mk this.cP this.cQ (fun i hi => by rw [e7 i hi]; exact this.bp i hi) this.bq this.zq (by obtain ⟨e, he⟩ := this.par; exact ⟨e, fun i hi => by rw [e7 i hi]; exact he i hi⟩) (by obtain ⟨i, hi, h⟩ := this.np; exact ⟨i, hi, by rw [e7 i hi]; exact h⟩) (fun i hi => by rw [e7 i hi]; exact this.zP i hi) this.zQ (fun ex => by obtain ⟨c1, c2, c3, c4, c5, c6, c7⟩ := this.sc ex; exact ⟨c1, c2, c3, c4, c5, fun i k hi hk => by rw [e7 i hi]; exact c6 i k hi hk, c7⟩)
            obtain ⟨w3, I3, J3, I4, J4, r, r1, r2, r3, r4⟩ := ih (j + 1) (1 - x) m1 m2 (va_up w 39 (!(w 39))) I' J' (up2 (va_up I2 6 (wrs (5 * j) 5 (I2 6) (xrow p x u d))) 0 8 (nI (j + 1))) J2' (by omega) (by omega) (by omega) (by omega) st (by
              rw [up2_at, va_up_at, up2_of (by decide), va_up_at]; exact a2) (by
              rw [up2_of (by decide), va_up_at]; exact a4)
            refine ⟨w3, I3, J3, I4, J4, r, cl'.trans r1, ?_, fV_tr ⟨fun a h => va_up_of h, a3, fun q q1 q2 q3 => (b5 q q1 q2).trans (jf q q3), fun a h1 h2 => by rw [up2_of h1, va_up_of h2], fun k hk => by rw [up2_at, va_up_of hk, va_up_of (show (0 : Nat) ≠ 6 by decide)], fun a q1 q2 q3 => (m2' a q1 q2 q3).trans (hK a q1)⟩ r3, r4⟩
            rw [mo, mg, m1', bn3_s, if_pos rfl, bd_e, show (1 : Int32) - nI x = nI (1 - x) from nI_sub (a := 1) (by omega), nI_1]
            exact r2
          · rw [if_neg e3] at cl'
            obtain ⟨J2', m1', m2'⟩ := lay1 e3
            refine ⟨w, I, J1, I2, J2', -5, cl', ?_, ⟨fun _ _ => rfl, fun _ _ => rfl, fun r _ _ h => jf r h, fun _ _ _ => rfl, fun _ _ => rfl, fun a q1 q2 q3 => (m2' a q1 q2 q3).trans (hK a q1)⟩, fun q => absurd q (by decide)⟩
            rw [mo, mg, m1', bn3_s, if_neg (by decide)]
        · rw [if_neg e2] at cl'
          exact bad K (fun a q1 _ _ => hK a q1) cl' (mb (by have := fun q => e2 (sgn.mpr q); omega))
      · rw [if_neg e1] at cl'
        exact bad J2 (fun _ _ _ _ => rfl) cl' (mstep_no ht hs e1)
    · have z2 : ∀ i, i < 7 → J2 8 i = 0 := fun i hi => Classical.byContradiction fun q => hz ⟨i, hi, q⟩
      have z1 : ∀ i, i < 7 → J (be w 39 + 1) i = 0 := fun i hi => by
        have := (zz (sg p i) (sg_lt hi)).mpr (z2 _ (sg_lt hi))
        rw [sg_sg hi] at this
        exact this
      refine ⟨w, I, J, I2, J2, nI (vc (I2 6) j), ?_, ?_, ⟨fun _ _ => rfl, fun _ _ => rfl, fun _ _ _ _ => rfl, fun _ _ _ => rfl, fun _ _ => rfl, fun _ _ _ _ => rfl⟩, fun _ => ⟨j, hL⟩⟩
      · show Un_divideOn_65b 30 1 (nI (1 - p)) (Un_divideOn_65 30 1 (nI (1 - p)) m1) I J (nn w) (sp p) (nI x) (nI j) = _
        unfold Un_divideOn_65b Un_divideOn_231
        rw [if_neg n6', nv_30_1, pa_1' pa_39, Po_degree_s (isPa_be pa_39 w), bn1_s, dgb_z 7 z1, if_pos rfl, nv_30_0, La_valueCount_s la_31 (by omega) hL.2.1 hL.2.2.2.1, bn1_s]
      · show Mo_divides_122b N_m 0 (nI p) (Mo_divides_122 N_m 0 (nI p) m2) I2 J2 (nI x) (nI j) = _
        unfold Mo_divides_122b Mo_divides_168
        rw [if_neg n8', mv_12, Mo_top_s rfl, bn1_s, dgb_z 7 z2, if_pos rfl, mv_7, hL.2.2.1, Mo_valuesIn_s (by show 5 * j ≤ 40; omega) (by decide) (by omega) hL.2.2.2.2.1, bn1_s]
