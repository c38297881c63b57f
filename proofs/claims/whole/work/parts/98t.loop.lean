theorem rstep {x i k m tG : Nat} {w : Nat → Bool} {I : HI} {J : HJ} {I2 : HI} {J2 : HJ} {T : Int32} (hxx : x < 2) (hi : i < 3) (hk : k < 110) (hA : atR I i k T) (hD : LD (J (ab w 44 + 1)) (J (be w 44 + 1))) (hG : tp7 (J (ab w 44 + 1)) tG) (h9 : ∀ i, i < 7 → J2 9 i = J (ab w 44 + 1) i ∧ J2 10 i = J (be w 44 + 1) i) (hs : ∀ i, i < 7 → J2 15 i = slr (J2 10) i) (hV : Vv (ri (J (be w 44 + 1))) (tA k) (tB k) = 0) (hT : T ≤ 1 ↔ Dd (ri (J (be w 44 + 1))) (tA k) (tB k) ≠ 0) (hL : RLm m I I2) (hv : vc (I2 6) m + 2 ≤ 6) : ∃ (I' : HI) (J' : HJ) (I2' : HI) (J2' : HJ) (r : Int32), Un_poleAtRoot (nn w) 30 (nI x) (nI i) I J = some (I', J', r) ∧ Mo_rootOnce N_m 0 (nI (2 + x)) (nI (2 + i)) (oi (tA k)) (oi (tB k)) I2 J2 = some (I2', J2', r) ∧ fP I I' J J' I2 I2' J2 J2' ∧ (r = 0 → ∃ m', RLm m' I' I2' ∧ vc (I2' 6) m' ≤ vc (I2 6) m + 2) ∧ (r = 0 ∨ r < 0) := by
  obtain ⟨l1, l2, l3, l4, l5, l6⟩ := hD
  obtain ⟨hR, a0⟩ := tRo hk
  have tk := t_ok k hk
  have bb : ∀ i, i < 7 → lb (J (ab w 44 + 1) i) 9 ∧ lb (J (be w 44 + 1) i) 9 := fun i hi => by
    by_cases c : i < 4
    · exact l1 i c
    · rw [(l2 i (by omega) hi).1, (l2 i (by omega) hi).2]; exact ⟨lb_0, lb_0⟩
  have bb2 : ∀ i, i < 7 → lb (J2 9 i) 9 ∧ lb (J2 10 i) 9 := fun i hi => by rw [(h9 i hi).1, (h9 i hi).2]; exact bb i hi
  have z10 : ∀ i, 4 ≤ i → i < 7 → J2 10 i = 0 := fun i q1 q2 => by rw [(h9 i q2).2]; exact (l2 i q1 q2).2
  have ne10 : ∃ i, i < 4 ∧ ¬ J2 10 i = 0 := by obtain ⟨i, hi, h⟩ := l4; exact ⟨i, hi, by rw [(h9 i (by omega)).2]; exact h⟩
  have eH : E4 (ri (J2 10)) (ri (J (be w 44 + 1))) := fun i hi => by show (J2 10 i).toInt = _; rw [(h9 i (by omega)).2]
  have eG : E4 (ri (J2 9)) (ri (J (ab w 44 + 1))) := fun i hi => by show (J2 9 i).toInt = _; rw [(h9 i (by omega)).1]
  have V10 : Vv (ri (J2 10)) (tA k) (tB k) = 0 := by rw [V_E eH]; exact hV
  have m9 : tp7 (J2 9) tG := ⟨hG.1, by rw [(h9 tG hG.1).1]; exact hG.2.1, fun i a b => by rw [(h9 i b).1]; exact hG.2.2 i a b⟩
  have g4 : tG < 4 := Classical.byContradiction fun q => hG.2.1 (l2 tG (by omega) hG.1).1
  have cneg : (-100 : Int32) - nI (2 + i) < 0 := Int32.not_le.mp (code_neg (j := 2 + i) (by omega))
  have cne : ¬ (-100 : Int32) - nI (2 + i) = 0 := fun q => by rw [q] at cneg; exact absurd cneg (by decide)
  by_cases c : tA k ≤ 0 ∨ ¬ T ≤ 1
  · have c' : tA k ≤ 0 ∨ Dd (ri (J2 10)) (tA k) (tB k) = 0 := by
      rcases c with c | c
      · exact Or.inl c
      · right
        rw [D_E eH]
        exact Classical.byContradiction fun q => c (hT.mpr q)
    exact ⟨I, J, I2, J2, _, croot_bad hi hk hA c, mroot_bad hR (fun i hi => (bb2 i hi).2) z10 hs ne10 V10 c', fP_id, fun q => absurd q cne, Or.inr cneg⟩
  · have ha : 0 < tA k := by
      have : ¬ tA k ≤ 0 := fun q => c (Or.inl q)
      omega
    have hT1 : T ≤ 1 := Classical.byContradiction fun q => c (Or.inr q)
    have hD1 := hT.mp hT1
    have D10 : Dd (ri (J2 10)) (tA k) (tB k) ≠ 0 := by rw [D_E eH]; exact hD1
    obtain ⟨u, d, J1, J1', f1, f3, lu, ld, f2, fr, r1, r2, r3, r4⟩ := croot_good (x := x) (m := m) (A := I2 6) hxx hi hk hA ha hT1 bb (fun i q1 q2 => (l2 i q1 q2).2) hV hD1 hL hv
    obtain ⟨m1, m2⟩ := mroot_xy (i := 2 + i) (I := I2) (p1 := nI (2 + x)) hR ha bb2 m9 g4 z10 hs ne10 V10 D10
    rw [V_E eG, D_E eH] at m2
    rw [V_E eG] at m1
    have E0 : -tA k * Dd (ri (J (be w 44 + 1))) (tA k) (tB k) ≠ 0 := Int.mul_ne_zero (by omega) hD1
    have fA : ∀ K : HJ, (∀ q, q ≠ 0 → K q = J2 q) → fP I I J J1 I2 I2 J2 K := fun K hK => ⟨fun _ _ => rfl, fun r q1 q2 q3 => (fr r q1 q2 q3).1, fun _ _ _ => rfl, fun _ _ => rfl, hK⟩
    by_cases v0 : Vv (ri (J (ab w 44 + 1))) (tA k) (tB k) = 0
    · have u0 : u.toInt = 0 := by
        rw [v0, Int.mul_zero] at f2
        exact (Int.mul_eq_zero.mp f2).resolve_right E0
      exact ⟨I, J1, I2, J2, 0, r1 u0, m1 v0, fA J2 (fun _ _ => rfl), fun _ => ⟨m, hL, by omega⟩, Or.inl rfl⟩
    · have u0 : u.toInt ≠ 0 := fun q => by
        rw [q, Int.zero_mul] at f2
        exact Int.mul_ne_zero (by omega) v0 f2.symm
      obtain ⟨X, s0, s1, x1, x2, x3, x4, x5, x6⟩ := m2 v0
      have uY : u.toInt * (s0 * s1).toInt = d.toInt * X.toInt := by
        apply Int.eq_of_mul_eq_mul_right v0
        generalize (s0 * s1).toInt = Y at *
        generalize -tA k * Dd (ri (J (be w 44 + 1))) (tA k) (tB k) = E at *
        generalize Vv (ri (J (ab w 44 + 1))) (tA k) (tB k) = V at *
        have e1 : u.toInt * Y * V = u.toInt * (V * Y) := by grind
        rw [e1, ← x6]
        have e2 : u.toInt * (X.toInt * E) = (u.toInt * E) * X.toInt := by grind
        rw [e2, f2]; grind
      obtain ⟨n1, n2, n3⟩ := mroot_121 (x := x) (m := m) (I := I2) (J := J2) (p2 := nI (2 + i)) hxx (by have := hL.1; omega) hL.2.2.1 hR ha x2 x3 x4 x5 f1 f3 lu ld uY
      rw [x1]
      by_cases up : 0 < u.toInt
      · by_cases hh : hy4 ((u * oi (tB k)) / fg (u * oi (tB k)) (d * oi (tA k))) ((d * oi (tA k)) / fg (u * oi (tB k)) (d * oi (tA k))) u d
        · obtain ⟨I', a1, a2, a3, a4⟩ := r4 up hh
          obtain ⟨K, k1, k2⟩ := n3 up hh
          refine ⟨I', J1', _, K, 0, a1, k1, ⟨a3, fun r q1 q2 q3 => (fr r q1 q2 q3).2, fun a q1 q2 => by rw [up2_of q1, va_up_of q2], fun k hk => by rw [up2_at, va_up_of hk, va_up_of (show (0 : Nat) ≠ 6 by decide)], k2⟩, fun _ => ⟨m + 1, ?_, ?_⟩, Or.inl rfl⟩
          · unfold RLm
            rw [up2_at, va_up_at, up2_of (by decide), va_up_at]; exact a2
          · rw [up2_of (by decide), va_up_at]; exact a4
        · obtain ⟨K0, K, k1, k2, k3⟩ := n2 up hh
          exact ⟨I, J1', K0, K, -5, r3 up hh, k1, ⟨fun _ _ => rfl, fun r q1 q2 q3 => (fr r q1 q2 q3).2, fun a _ q => k2 a q, fun k _ => by rw [k2 0 (by decide)], k3⟩, fun q => absurd q (by decide), Or.inr (by decide)⟩
      · exact ⟨I, J1, I2, J2, _, r2 (by omega), n1 (by omega), fA J2 (fun _ _ => rfl), fun q => absurd q cne, Or.inr cneg⟩
theorem isRoot_s {k tH : Nat} {I : HI} {J : HJ} (hk : k < 110) (hT : RT I) (hb : ∀ i, i < 4 → lb (J 10 i) 9) (ht : tp7 (J 10) tH) (t4 : tH < 4) : Mo_isRoot I J N_m 0 (nI k) = some (b2i (decide (Vv (ri (J 10)) (tA k) (tB k) = 0))) := by
  have tk := t_ok k hk
  obtain ⟨v, v1, v2, v3, v4⟩ := vat (J := J) (b := 10) (x := tA k) (y := tB k) (B := 9) rfl ht t4 hb (by omega) (by omega) (by decide)
  have vz : v = 0 ↔ Vv (ri (J 10)) (tA k) (tB k) = 0 := by
    rw [i64_e0, ← v4]
    exact ⟨fun q => by rw [q, Int.zero_mul], fun q => (Int.mul_eq_zero.mp q).resolve_right (py_ne (by omega) _)⟩
  unfold Mo_isRoot Mo_isRoot_0
  rw [mv_16, mv_19, gd_of (tm13 (by omega)), mv_20, gd_of (tm14 (by omega)), nI_clamp (by omega), (hT.2 k hk).1, (hT.2 k hk).2, iz_l (by omega), iz_l (by omega), v1, bn1_s]
  by_cases c : Vv (ri (J 10)) (tA k) (tB k) = 0
  · rw [if_pos (vz.mpr c), decide_eq_true c]; rfl
  · rw [if_neg (fun q => c (vz.mp q)), decide_eq_false c]; rfl
theorem lj {x n tG tH : Nat} {w : Nat → Bool} {ks : Nat → Nat} {T : Nat → Int32} {Gr Hr : Nat → Int64} (hxx : x < 2) (n3 : n ≤ 3) (hks : ∀ i, i < n → ks i < 110) (hmo : ∀ i j, i < j → j < n → ks i < ks j) (hD : LD Gr Hr) (hG : tp7 Gr tG) (hH : tp7 Hr tH) (hro : ∀ y, y < 110 → ((∃ i, i < n ∧ ks i = y) ↔ Vv (ri Hr) (tA y) (tB y) = 0)) (hT : ∀ i, i < n → (T i ≤ 1 ↔ Dd (ri Hr) (tA (ks i)) (tB (ks i)) ≠ 0)) : ∀ (r k i f1 f2 m : Nat) (I : HI) (J : HJ) (I2 : HI) (J2 : HJ), k + r = 110 → i ≤ n → n - i < f1 → r < f2 → (∀ j, j < i → ks j < k) → (∀ j, i ≤ j → j < n → k ≤ ks j) → J (ab w 44 + 1) = Gr → J (be w 44 + 1) = Hr → (∀ i, i < 7 → J2 9 i = Gr i ∧ J2 10 i = Hr i) → (∀ i, i < 7 → J2 15 i = slr (J2 10) i) → (∀ i, i < n → atR I i (ks i) (T i)) → I 30 9 = nI n → RT I2 → RLm m I I2 → vc (I2 6) m + 2 * (n - i) ≤ 6 → ∃ (I' : HI) (J' : HJ) (I2' : HI) (J2' : HJ) (res : Int32), Un_divideByPoles_64 30 1 (nI x) f1 I J (nn w) 0 (nI i) = some (I', J', nn w, res) ∧ Mo_byRoots_123 N_m 0 (nI (2 + x)) f2 I2 J2 0 (nI (2 + i)) (nI k) = some (I2', J2', res) ∧ fP I I' J J' I2 I2' J2 J2' ∧ (0 ≤ res → ∃ m', RLm m' I' I2') := by
  have t4 : tH < 4 := Classical.byContradiction fun q => hH.2.1 (hD.2.1 tH (by omega) hH.1).2
  intro r
  induction r with
  | zero =>
    intro k i f1 f2 m I J I2 J2 hk hi h1 h2 lo up jG jH j9 j15 hat h30 hRT hL hv
    obtain rfl : k = 110 := by omega
    obtain ⟨g1, rfl⟩ : ∃ g, f1 = g + 1 := ⟨f1 - 1, by omega⟩
    obtain ⟨g2, rfl⟩ : ∃ g, f2 = g + 1 := ⟨f2 - 1, by omega⟩
    have hin : i = n := by
      apply Classical.byContradiction
      intro q
      have := up i (Nat.le_refl i) (by omega)
      have := hks i (by omega)
      omega
    subst hin
    refine ⟨I, J, I2, J2, nI (vc (I2 6) m), ?_, ?_, fP_id, fun _ => ⟨m, hL⟩⟩
    · show Un_divideByPoles_64b 30 1 (nI x) (Un_divideByPoles_64 30 1 (nI x) g1) I J (nn w) 0 (nI i) = _
      unfold Un_divideByPoles_64b Un_divideByPoles_91
      rw [h30, if_pos (nI_le (Nat.le_refl i) (by omega)), if_pos rfl, nv_30_0, La_valueCount_s la_31 hL.1 hL.2.1 hL.2.2.2.1, bn1_s]
    · show Mo_byRoots_123b N_m 0 (nI (2 + x)) (Mo_byRoots_123 N_m 0 (nI (2 + x)) g2) I2 J2 0 (nI (2 + i)) (nI 110) = _
      unfold Mo_byRoots_123b Mo_byRoots_180
      rw [hRT.1, if_pos (by decide), if_pos rfl, mv_7, hL.2.2.1, Mo_valuesIn_s (by have := hL.1; show 5 * m ≤ 40; omega) (by decide) (by have := hL.1; omega) hL.2.2.2.2.1, bn1_s]
  | succ r ih =>
    intro k i f1 f2 m I J I2 J2 hk hi h1 h2 lo up jG jH j9 j15 hat h30 hRT hL hv
    obtain ⟨g2, rfl⟩ : ∃ g, f2 = g + 1 := ⟨f2 - 1, by omega⟩
    have k110 : k < 110 := by omega
    have tk := t_ok k k110
    have eH : E4 (ri (J2 10)) (ri Hr) := fun i hi => by show (J2 10 i).toInt = _; rw [(j9 i (by omega)).2]
    have m10 : tp7 (J2 10) tH := ⟨hH.1, by rw [(j9 tH hH.1).2]; exact hH.2.1, fun i a b => by rw [(j9 i b).2]; exact hH.2.2 i a b⟩
    have isr := isRoot_s (I := I2) (J := J2) k110 hRT (fun i hi => by rw [(j9 i (by omega)).2]; exact (hD.1 i hi).2) m10 t4
    rw [V_E eH] at isr
    have st : Mo_byRoots_123 N_m 0 (nI (2 + x)) (g2 + 1) I2 J2 0 (nI (2 + i)) (nI k) = if b2i (decide (Vv (ri Hr) (tA k) (tB k) = 0)) = 0 then Mo_byRoots_123 N_m 0 (nI (2 + x)) g2 I2 J2 0 (nI (2 + i)) (nI (k + 1)) else bn3 (Mo_rootOnce N_m 0 (nI (2 + x)) (nI (2 + i)) (oi (tA k)) (oi (tB k)) I2 J2) (fun I10 J11 r12 => Mo_byRoots_123 N_m 0 (nI (2 + x)) g2 I10 J11 r12 (nI (2 + (i + 1))) (nI (k + 1))) := by
      show Mo_byRoots_123b N_m 0 (nI (2 + x)) (Mo_byRoots_123 N_m 0 (nI (2 + x)) g2) I2 J2 0 (nI (2 + i)) (nI k) = _
      unfold Mo_byRoots_123b Mo_byRoots_174
      rw [hRT.1, if_neg (nI_ge k110 (by decide)), if_pos rfl, isr, bn1_s, mv_19, gd_of (tm13 (by omega)), mv_20, gd_of (tm14 (by omega)), nI_clamp (by omega), (hRT.2 k k110).1, (hRT.2 k k110).2, iz_l (by omega), iz_l (by omega), nI_1, nI_1, show 2 + i + 1 = 2 + (i + 1) by omega]
    by_cases hV : Vv (ri Hr) (tA k) (tB k) = 0
    · obtain ⟨j, hj, ej⟩ := (hro k k110).mpr hV
      have ji : j = i := by
        rcases Nat.lt_trichotomy j i with h | h | h
        · have := lo j h; omega
        · exact h
        · have := hmo i j h hj
          have := up i (Nat.le_refl i) (by omega)
          omega
      subst ji
      obtain ⟨g1, rfl⟩ : ∃ g, f1 = g + 1 + 1 := ⟨f1 - 2, by omega⟩
      have hat' := hat j hj
      rw [ej] at hat'
      have hT' := hT j hj
      rw [ej] at hT'
      obtain ⟨I', J', I2', J2', r0, p1, p2, p3, p4, p5⟩ := rstep (x := x) (i := j) (k := k) (m := m) (tG := tG) (w := w) (I := I) (J := J) (I2 := I2) (J2 := J2) hxx (by omega) k110 hat' (by rw [jG, jH]; exact hD) (by rw [jG]; exact hG) (by rw [jG, jH]; exact j9) j15 (by rw [jH]; exact hV) (by rw [jH]; exact hT') hL (by omega)
      obtain ⟨q1, q2, q3, q4, q5⟩ := id p3
      have q44 := ab_be (w := w) (p := 44)
      have cl : Un_divideByPoles_64 30 1 (nI x) (g1 + 1 + 1) I J (nn w) 0 (nI j) = Un_divideByPoles_64 30 1 (nI x) (g1 + 1) I' J' (nn w) r0 (nI (j + 1)) := by
        show Un_divideByPoles_64b 30 1 (nI x) (Un_divideByPoles_64 30 1 (nI x) (g1 + 1)) I J (nn w) 0 (nI j) = _
        unfold Un_divideByPoles_64b
        rw [h30, if_neg (nI_ge hj (by omega)), if_pos rfl, p1, bn3_s, nI_1]
      rw [cl, st, decide_eq_true hV, if_neg b2i_t, p2, bn3_s]
      have RT' : RT I2' := ⟨by rw [q4 21 (by decide)]; exact hRT.1, fun y hy => by rw [q3 13 (by decide) (by decide), q3 14 (by decide) (by decide)]; exact hRT.2 y hy⟩
      by_cases z : r0 = 0
      · subst z
        obtain ⟨m', L1, L2⟩ := p4 rfl
        obtain ⟨I3, J3, I4, J4, res, e1, e2, e3, e4⟩ := ih (k + 1) (j + 1) (g1 + 1) g2 m' I' J' I2' J2' (by omega) (by omega) (by omega) (by omega) (fun y hy => by
          by_cases e : y = j
          · subst e; omega
          · have := lo y (by omega); omega) (fun y y1 y2 => by have := hmo j y (by omega) y2; omega) (by rw [q2 _ (by omega) (by omega) (by omega)]; exact jG) (by rw [q2 _ (by omega) (by omega) (by omega)]; exact jH) (fun y hy => by rw [q5 9 (by decide), q5 10 (by decide)]; exact j9 y hy) (fun y hy => by rw [q5 15 (by decide), q5 10 (by decide)]; exact j15 y hy) (fun y hy => by
          have := hat y hy
          exact ⟨by rw [q1 53 (by decide)]; exact this.1, by rw [q1 54 (by decide)]; exact this.2.1, by rw [q1 55 (by decide)]; exact this.2.2⟩) (by rw [q1 30 (by decide)]; exact h30) RT' L1 (by omega)
        exact ⟨I3, J3, I4, J4, res, e1, e2, fP_tr p3 e3, e4⟩
      · have neg : ¬ 0 ≤ r0 := by
          rcases p5 with q | q
          · exact absurd q z
          · exact Int32.not_le.mpr q
        refine ⟨I', J', I2', J2', r0, ?_, ?_, p3, fun q => absurd q neg⟩
        · show Un_divideByPoles_64b 30 1 (nI x) (Un_divideByPoles_64 30 1 (nI x) g1) I' J' (nn w) r0 (nI (j + 1)) = _
          unfold Un_divideByPoles_64b Un_divideByPoles_91
          rw [if_neg z, if_neg z]
          by_cases c : I' 30 9 ≤ nI (j + 1)
          · rw [if_pos c]
          · rw [if_neg c]
        · obtain ⟨g3, rfl⟩ : ∃ g, g2 = g + 1 := ⟨g2 - 1, by omega⟩
          show Mo_byRoots_123b N_m 0 (nI (2 + x)) (Mo_byRoots_123 N_m 0 (nI (2 + x)) g3) I2' J2' r0 (nI (2 + (j + 1))) (nI (k + 1)) = _
          unfold Mo_byRoots_123b Mo_byRoots_180
          rw [if_neg z, if_neg z]
          by_cases c : I2' 0 21 ≤ nI (k + 1)
          · rw [if_pos c]
          · rw [if_neg c]
    · rw [st, decide_eq_false hV, if_pos b2i_f]
      exact ih (k + 1) i f1 g2 m I J I2 J2 (by omega) hi h1 (by omega) (fun y hy => by have := lo y hy; omega) (fun y y1 y2 => by
        have h1 := up y y1 y2
        have h2 : ks y ≠ k := fun q => hV ((hro k k110).mp ⟨y, y2, q⟩)
        omega) jG jH j9 j15 hat h30 hRT hL hv
