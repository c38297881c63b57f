theorem cpre {p x j t : Nat} {w : Nat → Bool} {I : HI} {J : HJ} {K : HI → HJ → HN → Int32 → Int32 → Int32 → Option (HI × HJ × HN × Int32)} (hp : p < 2) (hj : j < 6) (hQ : tp7 (fun i => J (be w 39 + 1) (sg p i)) t) (cP : ∀ i, i < 7 → lb (J (ab w 39 + 1) (sg p i)) (9 * 198 ^ j)) (cQ : ∀ i, i < 7 → lb (J (be w 39 + 1) (sg p i)) (9 * 198 ^ j)) :
    ∃ (u d : Int64) (J' : HJ), J' 51 0 = u ∧ J' 51 1 = d ∧ (∀ r, r ≠ 51 → J' r = J r) ∧ 0 < d.toInt ∧ Nat.gcd u.toInt.natAbs d.toInt.natAbs = 1 ∧ (t + 1 < 7 → u.toInt * (J (be w 39 + 1) (sg p t)).toInt = d.toInt * (J (ab w 39 + 1) (sg p (t + 1))).toInt) ∧
    ∀ s, tp7 (fun i => J (ab w 39 + 1) (sg p i)) s → Un_divideOn_65b 30 1 (nI (1 - p)) K I J (nn w) (sp p) (nI x) (nI j) = if s = t + 1 then (if 0 < u.toInt then (if u.toInt ≤ 99 ∧ d.toInt ≤ 99 then bn1 (if p = 0 then Un_addRising J' (nn w) 30 (nI x) I else Un_addFalling J' (nn w) 30 (nI x) I) (fun I36 => Un_divideOn_200 30 1 (nI (1 - p)) K I36 J' (nn w) (sp p) (nI x) (nI j)) else some (I, J', nn w, -5)) else some (I, J', nn w, -100 - nI j)) else some (I, J', nn w, -100 - nI j) := by
  have b8 : 9 * 198 ^ j * 9 < 2 ^ 62 := by
    rcases (show j = 0 ∨ j = 1 ∨ j = 2 ∨ j = 3 ∨ j = 4 ∨ j = 5 by omega) with rfl | rfl | rfl | rfl | rfl | rfl <;> decide
  have q1 := ab_be (w := w) (p := 39)
  have pA := isPa_ab pa_39 w
  have pB := isPa_be pa_39 w
  have ht := hQ.1
  obtain ⟨a, ha⟩ : ∃ a : Int64, a = if t + 1 < 7 then J (ab w 39 + 1) (sg p (t + 1)) else 0 := ⟨_, rfl⟩
  obtain ⟨b, hb⟩ : ∃ b : Int64, b = J (be w 39 + 1) (sg p t) := ⟨_, rfl⟩
  have la : lb a (9 * 198 ^ j) := by
    rw [ha]
    by_cases e : t + 1 < 7
    · rw [if_pos e]; exact cP _ e
    · rw [if_neg e]; exact lb_0
  have lb' : lb b (9 * 198 ^ j) := by rw [hb]; exact cQ t ht
  have b0 : ¬ b = 0 := by rw [hb]; exact hQ.2.1
  obtain ⟨l1, l2, l3⟩ := fg_low la lb' (by omega) b0
  obtain ⟨J', hJ'⟩ : ∃ J' : HJ, J' = up2 (up2 J 51 0 (a / fg a b)) 51 1 (b / fg a b) := ⟨_, rfl⟩
  have j0 : J' 51 0 = a / fg a b := by rw [hJ', up2_at, va_up_of (by decide), up2_at, va_up_at]
  have j1 : J' 51 1 = b / fg a b := by rw [hJ', up2_at, va_up_at]
  have jf : ∀ r, r ≠ 51 → J' r = J r := fun r hr => by rw [hJ', up2_of hr, up2_of hr]
  refine ⟨a / fg a b, b / fg a b, J', j0, j1, jf, l1, l3, fun e => by rw [← hb, l2, ha, if_pos e], fun s hs => ?_⟩
  have rA : J' (ab w 39 + 1) = J (ab w 39 + 1) := jf _ (by omega)
  have hs' : tp7 (fun i => J' (ab w 39 + 1) (sg p i)) s := by rw [rA]; exact hs
  have dg : ¬ dgb 7 (zl (J (be w 39 + 1))) = -1 := by
    intro q
    obtain ⟨t2, h2⟩ := top_ex (f := J (be w 39 + 1)) 7 (by decide) (fun i h1 h2 => by omega) ⟨sg p t, sg_lt ht, hQ.2.1⟩
    rw [dgb_tp h2] at q
    have := congrArg Int32.toInt q
    rw [nI_toInt (by have := h2.1; omega), show (-1 : Int32).toInt = -1 from rfl] at this
    omega
  unfold Un_divideOn_65b
  rw [if_neg (fun q => by rw [show (6 : Int32) = nI 6 from rfl, nI_ltI (by decide) (by omega)] at q; omega), nv_30_1, pa_1' pa_39, Po_degree_s pB, bn1_s, if_neg dg, nv_30_1, pa_1' pa_39, cend hp pB hQ, bn1_s, nv_30_4, nv_30_1, pa_0 pa_39, Po_at_s pA, bn1_s, nv_30_1, pa_1' pa_39, Po_at_s pB, bn1_s, sp_at hp ht, pat_nI (sg_lt ht), ← ha, ← hb, Fr_put_s la lb' b8 b0, bn1_s, ← hJ', nv_30_1, pa_0 pa_39, cend hp pA hs', bn1_s]
  have un : Un_divideOn_162 30 1 (nI (1 - p)) I J' (nn w) (nI j) = some (I, J', nn w, -100 - nI j) := rfl
  by_cases e1 : s = t + 1
  · rw [if_pos ((sp_eq hp hs.1 ht).mpr e1), if_pos e1, nv_30_4, j0]
    by_cases e2 : 0 < (a / fg a b).toInt
    · rw [if_pos (lt_i.mpr (show (0 : Int64).toInt < (a / fg a b).toInt from e2)), if_pos e2, nv_30_4, Fr_isHandy_s (by rw [j0]; exact e2), bn1_s, j0, j1]
      by_cases e3 : (a / fg a b).toInt ≤ 99 ∧ (b / fg a b).toInt ≤ 99
      · rw [decide_eq_true e3, if_neg b2i_t, if_pos e3]
        rcases (show p = 0 ∨ p = 1 by omega) with rfl | rfl
        · rw [if_neg (by decide), if_pos rfl]
        · rw [if_pos (by decide), if_neg (by decide)]
      · rw [decide_eq_false e3, if_pos b2i_f, if_neg e3]
    · rw [if_neg (fun q => e2 (show (0 : Int64).toInt < (a / fg a b).toInt from lt_i.mp q)), if_neg e2]; exact un
  · rw [if_neg (fun q => e1 ((sp_eq hp hs.1 ht).mp q)), if_neg e1]; exact un
theorem cadd {p x j : Nat} {w : Nat → Bool} {I : HI} {J : HJ} {A : Nat → Int32} {c2 : Int32} {u d : Int64} (hp : p < 2) (hxx : x < 2) (hj : j < 6) (h0 : J 51 0 = u) (h1 : J 51 1 = d) (hL : RL j (I 31 1) c2 (fun k => I (33 + k)) A) (hv : vc A j = j) (u1 : 0 < u.toInt) (u2 : u.toInt ≤ 99) (d1 : 0 < d.toInt) (d2 : d.toInt ≤ 99) : ∃ I' : HI, (if p = 0 then Un_addRising J (nn w) 30 (nI x) I else Un_addFalling J (nn w) 30 (nI x) I) = some I' ∧ RL (j + 1) (I' 31 1) (nI (j + 1)) (fun k => I' (33 + k)) (wrs (5 * j) 5 A (xrow p x u d)) ∧ (∀ a, a < 31 ∨ a = 32 ∨ 38 < a → I' a = I a) ∧ vc (wrs (5 * j) 5 A (xrow p x u d)) (j + 1) = j + 1 := by
  obtain ⟨_, c1, _, rows, aoks, _⟩ := hL
  have v00 : vok 0 0 := Or.inl ⟨rfl, rfl⟩
  obtain ⟨k1, k2⟩ := handy_vok u1 u2 d1 d2
  obtain ⟨k3, k4⟩ := handy_vok d1 d2 u1 u2
  have vnew : ∀ (P u v x y : Int32), v1 u + v1 x = 1 → vc (wrs (5 * j) 5 A (arow P u v x y)) (j + 1) = j + 1 := by
    intro P u v x y e
    show vc _ j + (v1 (wrs (5 * j) 5 A (arow P u v x y) (5 * j + 1)) + v1 (wrs (5 * j) 5 A (arow P u v x y) (5 * j + 3))) = j + 1
    rw [vc_congr (B := A) j (fun i hi => arow_lo hi), arow_v (j := 1) (by decide), arow_v (j := 3) (by decide), hv]
    show j + (v1 u + v1 x) = j + 1
    omega
  have z0 : v1 0 = 0 := rfl
  have w1 : ∀ y : Int32, ¬ y = 0 → v1 y = 1 := fun y hy => by unfold v1; rw [if_neg hy]
  have hxo : nI x = 0 ∨ nI x = 1 := (show x = 0 ∨ x = 1 by omega).elim (fun e => Or.inl (by rw [e]; rfl)) (fun e => Or.inr (by rw [e]; rfl))
  have e1 : ∀ a b : Int32, vok a b → ¬ a = 0 → ∃ I' : HI, La_add (nn w) 31 (nI x) a b 0 0 I = some (I', 1) ∧ RL (j + 1) (I' 31 1) (nI (j + 1)) (fun k => I' (33 + k)) (wrs (5 * j) 5 A (arow (nI x) a b 0 0)) ∧ (∀ a, a < 31 ∨ a = 32 ∨ 38 < a → I' a = I a) ∧ vc (wrs (5 * j) 5 A (arow (nI x) a b 0 0)) (j + 1) = j + 1 := by
    intro a b hab ha
    obtain ⟨I', g1, g2, g3⟩ := built_add (w := w) (p := nI x) c1 rows aoks hxo hab v00 (fun q => ha q.1) (by rw [hv, w1 a ha, z0]; omega)
    exact ⟨I', g1, g2, g3, vnew _ _ _ _ _ (by rw [w1 a ha, z0])⟩
  have e3 : ∀ a b : Int32, vok a b → ¬ a = 0 → ∃ I' : HI, La_add (nn w) 31 (nI x) 0 0 a b I = some (I', 1) ∧ RL (j + 1) (I' 31 1) (nI (j + 1)) (fun k => I' (33 + k)) (wrs (5 * j) 5 A (arow (nI x) 0 0 a b)) ∧ (∀ a, a < 31 ∨ a = 32 ∨ 38 < a → I' a = I a) ∧ vc (wrs (5 * j) 5 A (arow (nI x) 0 0 a b)) (j + 1) = j + 1 := by
    intro a b hab ha
    obtain ⟨I', g1, g2, g3⟩ := built_add (w := w) (p := nI x) c1 rows aoks hxo v00 hab (fun q => ha q.2) (by rw [hv, w1 a ha, z0]; omega)
    exact ⟨I', g1, g2, g3, vnew _ _ _ _ _ (by rw [w1 a ha, z0])⟩
  rcases (show p = 0 ∨ p = 1 by omega) with rfl | rfl
  · rw [if_pos rfl]
    unfold Un_addRising Un_addRising_0
    rw [nv_30_4, bd_e, nv_30_4, bd_e, h0, h1]
    rcases (show x = 0 ∨ x = 1 by omega) with rfl | rfl
    · obtain ⟨I', g1, g2⟩ := e1 _ _ k1 k2
      rw [if_pos (by decide), nv_30_0, g1, bn2_s]
      exact ⟨I', rfl, g2⟩
    · obtain ⟨I', g1, g2⟩ := e3 _ _ k1 k2
      rw [if_neg (by decide), nv_30_0, g1, bn2_s]
      exact ⟨I', rfl, g2⟩
  · rw [if_neg (by decide)]
    unfold Un_addFalling Un_addFalling_0
    rw [nv_30_4, bd_e, nv_30_4, bd_e, h0, h1]
    rcases (show x = 0 ∨ x = 1 by omega) with rfl | rfl
    · obtain ⟨I', g1, g2⟩ := e3 _ _ k3 k4
      rw [if_pos (by decide), nv_30_0, g1, bn2_s]
      exact ⟨I', rfl, g2⟩
    · obtain ⟨I', g1, g2⟩ := e1 _ _ k3 k4
      rw [if_neg (by decide), nv_30_0, g1, bn2_s]
      exact ⟨I', rfl, g2⟩
theorem cgo {p x j : Nat} {w : Nat → Bool} {I : HI} {J : HJ} {u d : Int64} {p1 : Int32} {K : HI → HJ → HN → Int32 → Int32 → Int32 → Option (HI × HJ × HN × Int32)} (hp : p < 2) (hxx : x < 2) (hj : j < 6) (h0 : J 51 0 = u) (h1 : J 51 1 = d) (cP : ∀ i, i < 7 → lb (J (ab w 39 + 1) (sg p i)) (9 * 198 ^ j)) (cQ : ∀ i, i < 7 → lb (J (be w 39 + 1) (sg p i)) (9 * 198 ^ j)) (nQ : ∃ i, i < 7 ∧ ¬ J (be w 39 + 1) (sg p i) = 0) (u1 : 0 < u.toInt) (u2 : u.toInt ≤ 99) (d1 : 0 < d.toInt) (d2 : d.toInt ≤ 99) : ∃ (J' : HJ) (G : Int), Un_divideOn_200 30 1 p1 K I J (nn w) (sp p) (nI x) (nI j) = K I J' (nn (va_up w 39 (!(w 39)))) (sp p) (nI (1 - x)) (nI (j + 1)) ∧ G ≠ 0 ∧ (∀ i, i < 7 → (J' (be w 39 + 1) (sg p i)).toInt * G = d.toInt * (J (be w 39 + 1) (sg p i)).toInt) ∧ (∀ i, i < 7 → (J' (ab w 39 + 1) (sg p i)).toInt * G = d.toInt * (J (ab w 39 + 1) (sg p i)).toInt - u.toInt * qs (fun i => (J (be w 39 + 1) (sg p i)).toInt) i) ∧ ∀ r, r ≠ 41 → r ≠ 43 → J' r = J r := by
  have b8 : 9 * 198 ^ j * 9 * 99 * 2 < 2 ^ 62 := by
    rcases (show j = 0 ∨ j = 1 ∨ j = 2 ∨ j = 3 ∨ j = 4 ∨ j = 5 by omega) with rfl | rfl | rfl | rfl | rfl | rfl <;> decide
  obtain ⟨b, hb⟩ : ∃ b, b = 9 * 198 ^ j := ⟨_, rfl⟩
  rw [← hb] at cP cQ b8
  have q1 := ab_be (w := w) (p := 39)
  have ss : ∀ i, i < 7 → sg p (sg p i) = i := by
    intro i hi
    unfold sg
    by_cases e : p = 0 <;> simp only [e, if_true, if_false] <;> omega
  have cP' : ∀ i, i < 7 → lb (J (ab w 39 + 1) i) b := fun i hi => by have := cP _ (sg_lt (p := p) hi); rw [ss i hi] at this; exact this
  have cQ' : ∀ i, i < 7 → lb (J (be w 39 + 1) i) b := fun i hi => by have := cQ _ (sg_lt (p := p) hi); rw [ss i hi] at this; exact this
  have lu : lb u 99 := by unfold lb; omega
  have ld : lb d 99 := by unfold lb; omega
  unfold Un_divideOn_200
  obtain ⟨J1, g1, ⟨g2, g3⟩, g4⟩ := goOn_s (w := w) (J := J) (s := sp p)
  rw [nv_30_1, nv_30_4, g1, bn2_s, nv_30_1]
  obtain ⟨X, hX⟩ : ∃ X : Nat → Int64, X = fun k => J (ab w 39 + 1) k * J 51 1 - J 51 0 * pat (J (be w 39 + 1)) (nI k - sp p) := ⟨_, rfl⟩
  obtain ⟨Y, hY⟩ : ∃ Y : Nat → Int64, Y = fun k => J (be w 39 + 1) k * J 51 1 := ⟨_, rfl⟩
  have Yi : ∀ i, i < 7 → (Y i).toInt = (J (be w 39 + 1) i).toInt * d.toInt ∧ lb (Y i) (b * 99) := by
    intro i hi
    rw [hY]
    show (J (be w 39 + 1) i * J 51 1).toInt = _ ∧ lb (J (be w 39 + 1) i * J 51 1) _
    rw [h1]
    exact ⟨mul_i (cQ' i hi) ld (by omega), lb_mul (cQ' i hi) ld (by omega)⟩
  have pl : ∀ i, i < 7 → (pat (J (be w 39 + 1)) (nI (sg p i) - sp p)).toInt = qs (fun i => (J (be w 39 + 1) (sg p i)).toInt) i ∧ lb (pat (J (be w 39 + 1)) (nI (sg p i) - sp p)) b := by
    intro i hi
    rw [sp_sub hp hi]
    unfold qs
    by_cases e : i = 0
    · rw [if_pos e, if_pos e]; exact ⟨rfl, lb_0⟩
    · rw [if_neg e, if_neg e]; exact ⟨rfl, cQ _ (by omega)⟩
  have Xi : ∀ i, i < 7 → (X (sg p i)).toInt = (J (ab w 39 + 1) (sg p i)).toInt * d.toInt - u.toInt * qs (fun i => (J (be w 39 + 1) (sg p i)).toInt) i ∧ lb (X (sg p i)) (b * 99 + 99 * b) := by
    intro i hi
    have m1 := mul_i (cP i hi) ld (by omega)
    have l1 := lb_mul (cP i hi) ld (by omega)
    have m2 := mul_i lu (pl i hi).2 (by omega)
    have l2 := lb_mul lu (pl i hi).2 (by omega)
    have e : (X (sg p i)).toInt = (J (ab w 39 + 1) (sg p i)).toInt * d.toInt - u.toInt * qs (fun i => (J (be w 39 + 1) (sg p i)).toInt) i := by
      rw [hX]
      show (J (ab w 39 + 1) (sg p i) * J 51 1 - J 51 0 * pat (J (be w 39 + 1)) (nI (sg p i) - sp p)).toInt = _
      rw [h0, h1, sub_i l1 l2 (by omega), m1, m2, (pl i hi).1]
    refine ⟨e, ?_⟩
    unfold lb at l1 l2 ⊢
    rw [m1] at l1
    rw [m2, (pl i hi).1] at l2
    rw [e]
    omega
  have Xl : ∀ i, i < 7 → lb (X i) (b * 99 + 99 * b) := fun i hi => by have := (Xi _ (sg_lt (p := p) hi)).2; rw [ss i hi] at this; exact this
  have Yl : ∀ i, i < 7 → lb (Y i) (b * 99 + 99 * b) := fun i hi => lb_mono (Yi i hi).2 (by omega)
  have hR : RR 7 (J1 (ab (va_up w 39 (!(w 39))) 39 + 1)) (J1 (be (va_up w 39 (!(w 39))) 39 + 1)) (Y, X) := by
    rw [ab_swap, be_swap, hX, hY]
    exact ⟨g3, g2⟩
  obtain ⟨J2, n1, n2, n3⟩ := cnP_s (t := 0) pa_39 hR (fun i hi => lb_nm (Yl i hi) (by omega)) (fun i hi => lb_nm (Xl i hi) (by omega))
  rw [n1, bn1_s, bd_e, show (1 : Int32) - nI x = nI (1 - x) from nI_sub (a := 1) (by omega), nI_1]
  rw [ab_swap, be_swap] at n2 n3
  obtain ⟨i0, hi0, hne⟩ := nQ
  obtain ⟨G0, GY, GX⟩ := nP_mul (a := Y) (b := X) Yl Xl (by omega) ⟨sg p i0, sg_lt hi0, i64_ne.mpr (by rw [(Yi _ (sg_lt hi0)).1]; exact Int.mul_ne_zero (i64_ne.mp hne) (by omega))⟩
  refine ⟨J2, (dvs Y X).toInt, rfl, G0, fun i hi => ?_, fun i hi => ?_, fun r r1 r2 => by rw [n3 r (by omega) (by omega), g4 r r1 r2]⟩
  · rw [n2.1 _ (sg_lt hi)]
    show (nrm (dvs Y X) Y (sg p i)).toInt * _ = _
    rw [GY _ (sg_lt hi), (Yi _ (sg_lt hi)).1, Int.mul_comm]
  · rw [n2.2 _ (sg_lt hi)]
    show (nrm (dvs Y X) X (sg p i)).toInt * _ = _
    rw [GX _ (sg_lt hi), (Xi i hi).1, Int.mul_comm d.toInt]
