theorem apu_z {x z t : Int64} {j : Nat} (h : 3 ≤ j) : apu x z t j = 0 := by
  unfold apu
  rw [if_neg (show ¬ j = 1 by omega), if_neg (show ¬ j = 0 by omega), if_neg (show ¬ j = 1 by omega)]
  split
  · rfl
  · split <;> rfl
theorem apd_z {x y z t : Int64} {j : Nat} (h : 3 ≤ j) : apd x y z t j = 0 := by
  unfold apd
  rw [if_neg (show ¬ j = 0 by omega), if_neg (show ¬ j = 1 by omega), if_neg (show ¬ j = 0 by omega), if_neg (show ¬ j = 2 by omega)]
  split
  · rfl
  · split <;> rfl
theorem pput0 {f : Nat → Int64} {v : Int64} : pput f 0 v = va_up f 0 v := pput_nI (k := 0) (by decide)
theorem pput1 {f : Nat → Int64} {v : Int64} : pput f 1 v = va_up f 1 v := pput_nI (k := 1) (by decide)
theorem pput2 {f : Nat → Int64} {v : Int64} : pput f 2 v = va_up f 2 v := pput_nI (k := 2) (by decide)
theorem put_row {f : Nat → Int64} {i j : Nat} {v : Int64} (hj : j < 7) : va_up (wrk 7 f (fun _ => 0)) i v j = if j = i then v else 0 := by
  by_cases e : j = i
  · subst e; rw [va_up_at, if_pos rfl]
  · rw [va_up_of e, if_neg e, wrk_lt hj]
theorem put_row2 {f : Nat → Int64} {j : Nat} {v x : Int64} (hj : j < 7) : va_up (va_up (wrk 7 f (fun _ => 0)) 0 v) 2 x j = if j = 0 then v else if j = 2 then x else 0 := by
  by_cases e : j = 2
  · subst e; rw [va_up_at, if_neg (by decide), if_pos rfl]
  · rw [va_up_of e, put_row hj, if_neg e]
theorem carm_m {L k : Nat} {w : Nat → Bool} {I : HI} {J : HJ} {s x y z t v s2 v2 : Int32} (hv : v = 4 - s) (hs2 : s + 1 = s2) (hv2 : v + 1 = v2) (h1 : La_item I (nn w) L (nI k) s = some x) (h2 : La_item I (nn w) L (nI k) s2 = some y) (h3 : La_item I (nn w) L (nI k) v = some z) (h4 : La_item I (nn w) L (nI k) v2 = some t) : ∃ J' : HJ, Fo_loadArm_14 I (nn w) 14 L (nI k) J s = some J' ∧ RR 7 (J' (ab w 20 + 1)) (J' (be w 20 + 1)) (apu x.toInt64 z.toInt64 t.toInt64, apd x.toInt64 y.toInt64 z.toInt64 t.toInt64) ∧ ∀ r, r < 22 ∨ 24 < r → J' r = J r := by
  have q2 := ab_be (w := w) (p := 20)
  have j7 : ∀ {j : Nat}, j < 7 → j = 0 ∨ j = 1 ∨ j = 2 ∨ j = 3 ∨ j = 4 ∨ j = 5 ∨ j = 6 := fun h => by omega
  have po := isPa_ab pa_20 w
  have pb := isPa_be pa_20 w
  unfold Fo_loadArm_14
  rw [bd_e, ← hv, hs2, hv2, h1, bn1_s, h2, bn1_s, h3, bn1_s, h4, bn1_s, nv_14_1, pa_0 pa_20, Po_clear_s po, bn1_s, nv_14_1, pa_1' pa_20, Po_clear_s pb, bn1_s, va_up_of (show be w 20 + 1 ≠ ab w 20 + 1 by omega)]
  by_cases hz : z.toInt64 = 0
  · rw [if_pos hz, nv_14_1, pa_0 pa_20, Po_put_s po, bn1_s, nv_14_1, pa_1' pa_20, Po_put_s pb, bn1_s, pput0, pput1]
    refine ⟨_, rfl, ⟨fun j hj => ?_, fun j hj => ?_⟩, fun r hr => by rw [va_up_of (by omega), va_up_of (by omega), va_up_of (by omega), va_up_of (by omega)]⟩
    · rw [va_up_of (show ab w 20 + 1 ≠ be w 20 + 1 by omega), va_up_at, va_up_of (show ab w 20 + 1 ≠ be w 20 + 1 by omega), va_up_at]
      show _ = apu _ _ _ j
      unfold apu
      rw [if_pos hz]
      exact put_row hj
    · rw [va_up_at, va_up_of (show be w 20 + 1 ≠ ab w 20 + 1 by omega), va_up_at]
      show _ = apd _ _ _ _ j
      unfold apd
      rw [if_pos hz]
      exact put_row hj
  · rw [if_neg hz]
    by_cases hx : x.toInt64 = 0
    · rw [if_pos hx, nv_14_1, pa_0 pa_20, Po_put_s po, bn1_s, nv_14_1, pa_1' pa_20, Po_put_s pb, bn1_s, pput0, pput1]
      refine ⟨_, rfl, ⟨fun j hj => ?_, fun j hj => ?_⟩, fun r hr => by rw [va_up_of (by omega), va_up_of (by omega), va_up_of (by omega), va_up_of (by omega)]⟩
      · rw [va_up_of (show ab w 20 + 1 ≠ be w 20 + 1 by omega), va_up_at, va_up_of (show ab w 20 + 1 ≠ be w 20 + 1 by omega), va_up_at]
        show _ = apu _ _ _ j
        unfold apu
        rw [if_neg hz, if_pos hx]
        exact put_row hj
      · rw [va_up_at, va_up_of (show be w 20 + 1 ≠ ab w 20 + 1 by omega), va_up_at]
        show _ = apd _ _ _ _ j
        unfold apd
        rw [if_neg hz, if_pos hx]
        exact put_row hj
    · rw [if_neg hx, nv_14_1, pa_0 pa_20, Po_put_s po, bn1_s, nv_14_1, pa_1' pa_20, Po_put_s pb, bn1_s, nv_14_1, pa_1' pa_20, Po_put_s pb, bn1_s, pput0, pput1, pput2]
      refine ⟨_, rfl, ⟨fun j hj => ?_, fun j hj => ?_⟩, fun r hr => by rw [va_up_of (by omega), va_up_of (by omega), va_up_of (by omega), va_up_of (by omega), va_up_of (by omega)]⟩
      · rw [va_up_of (show ab w 20 + 1 ≠ be w 20 + 1 by omega), va_up_of (show ab w 20 + 1 ≠ be w 20 + 1 by omega), va_up_at, va_up_of (show ab w 20 + 1 ≠ be w 20 + 1 by omega), va_up_at]
        show _ = apu _ _ _ j
        unfold apu
        rw [if_neg hz, if_neg hx]
        exact put_row hj
      · rw [va_up_at, va_up_at, va_up_of (show be w 20 + 1 ≠ ab w 20 + 1 by omega), va_up_at]
        show _ = apd _ _ _ _ j
        unfold apd
        rw [if_neg hz, if_neg hx]
        exact put_row2 hj
theorem carm_R {L k m : Nat} {w : Nat → Bool} {I : HI} {J : HJ} {A : Nat → Int32} (hL : isLa L) (hm : m ≤ 6) (hc : I L 1 = nI m) (hk : k < m) (hr : ∀ j, j < 5 → I (L + 2 + k) j = A (5 * k + j)) : ∃ J' : HJ, Fo_loadArm I (nn w) 14 L (nI k) J = some J' ∧ RR 7 (J' (ab w 20 + 1)) (J' (be w 20 + 1)) (au A k, ad A k) ∧ ∀ r, r < 22 ∨ 24 < r → J' r = J r := by
  have q2 := ab_be (w := w) (p := 20)
  have it : ∀ j, j < 5 → La_item I (nn w) L (nI k) (nI j) = some (A (5 * k + j)) := fun j hj => by rw [La_item_s hL hm hc hk hj, hr j hj]
  have i0 : La_item I (nn w) L (nI k) 0 = some (A (5 * k)) := it 0 (by decide)
  have i1 : La_item I (nn w) L (nI k) 1 = some (A (5 * k + 1)) := it 1 (by decide)
  have i2 : La_item I (nn w) L (nI k) 2 = some (A (5 * k + 2)) := it 2 (by decide)
  have i3 : La_item I (nn w) L (nI k) 3 = some (A (5 * k + 3)) := it 3 (by decide)
  have i4 : La_item I (nn w) L (nI k) 4 = some (A (5 * k + 4)) := it 4 (by decide)
  have j7 : ∀ {j : Nat}, j < 7 → j = 0 ∨ j = 1 ∨ j = 2 ∨ j = 3 ∨ j = 4 ∨ j = 5 ∨ j = 6 := fun h => by omega
  have po := isPa_ab pa_20 w
  have pb := isPa_be pa_20 w
  unfold Fo_loadArm Fo_loadArm_0 au ad y3 y5 y7 y9
  rw [i0, bn1_s]
  by_cases e : A (5 * k) = 0
  · rw [if_pos e, if_pos e, if_pos e, if_pos e, if_pos e]
    exact carm_m (s := 1) (v := 3) (s2 := 2) (v2 := 4) (by decide) (by decide) (by decide) i1 i2 i3 i4
  · rw [if_neg e, if_neg e, if_neg e, if_neg e, if_neg e]
    exact carm_m (s := 3) (v := 1) (s2 := 4) (v2 := 2) (by decide) (by decide) (by decide) i3 i4 i1 i2
theorem cnP_s {p t : Nat} {w : Nat → Bool} {J : HJ} {a b : Nat → Int64} (hp : isPa p) (hR : RR 7 (J (ab w p + 1)) (J (be w p + 1)) (a, b)) (h1 : nms a) (h2 : nms b) : ∃ J' : HJ, Pa_becomeAsPair (nn w) p J = some J' ∧ RR 7 (J' (ab w p + 1)) (J' (be w p + 1)) (nP a b) ∧ ∀ r, r ≠ ab w p + 1 → r ≠ be w p + 1 → J' r = J r := by
  have q := ab_be (w := w) (p := p)
  obtain ⟨r1, r2⟩ := hR
  have r1 : ∀ k, k < 7 → J (ab w p + 1) k = a k := r1
  have r2 : ∀ k, k < 7 → J (be w p + 1) k = b k := r2
  refine ⟨_, Pa_becomeAsPair_s hp (fun k hk => by rw [r1 k hk]; exact h1 k hk) (fun k hk => by rw [r2 k hk]; exact h2 k hk), ⟨fun k hk => ?_, fun k hk => ?_⟩, fun r g1 g2 => by rw [va_up_of g2, va_up_of g1]⟩
  · rw [va_up_of (show ab w p + 1 ≠ be w p + 1 by omega), va_up_at, wrk_lt hk, dvs_congr r1 r2]
    exact nrm_congr (r1 k hk)
  · rw [va_up_at, wrk_lt hk, dvs_congr r1 r2]
    exact nrm_congr (r2 k hk)
theorem sw2 {w : Nat → Bool} {p : Nat} : va_up (va_up w p (!(w p))) p (!(va_up w p (!(w p)) p)) = w := by
  rw [va_up_va, va_up_at, Bool.not_not, va_up_id]
theorem cfold_arm {L t r m : Nat} {w : Nat → Bool} {I : HI} {J : HJ} {A : Nat → Int32} {s : PP} (hL : isLa L) (hm : m ≤ 6) (hc : I L 1 = nI m) (hr : r < m) (hrow : ∀ j, j < 5 → I (L + 2 + r) j = A (5 * r + j)) (hR : RR 7 (J (ab w 15 + 1)) (J (be w 15 + 1)) s) (h : St t s.1 s.2) (hA : aok A r) (ht : t + (v1 (A (5 * r + 1)) + v1 (A (5 * r + 3))) ≤ 6) : ∃ J' : HJ, (∀ K, Fo_foldUp_58b I 14 L K J (nn w) (nI r) = K J' (nn w) (nI r + (-1))) ∧ RR 7 (J' (ab w 15 + 1)) (J' (be w 15 + 1)) (fstep A r s) ∧ fD J J' := by
  have q1 := ab_be (w := w) (p := 15)
  have q2 := ab_be (w := w) (p := 20)
  obtain ⟨J1, h1, h2, h3⟩ := carm_R (w := w) (J := J) hL hm hc hr hrow
  have i0 : La_item I (nn w) L (nI r) 0 = some (A (5 * r)) := by
    have := La_item_s (w := w) (j := 0) hL hm hc hr (by decide)
    rw [hrow 0 (by decide)] at this
    exact this
  have hR1 : RR 7 (J1 (ab w 15 + 1)) (J1 (be w 15 + 1)) (s.1, s.2) := by rw [h3 _ (by omega), h3 _ (by omega)]; exact hR
  have f1 : fD J J1 := fun a ha => h3 a (by omega)
  have zu : ∀ j, 3 ≤ j → au A r j = 0 := fun j hj => apu_z hj
  have zd : ∀ j, 3 ≤ j → ad A r j = 0 := fun j hj => apd_z hj
  unfold fstep
  by_cases e : A (5 * r) = 1
  · have e1 : ab (va_up w 15 (!(w 15))) 15 = be w 15 := ab_swap
    have e2 : be (va_up w 15 (!(w 15))) 15 = ab w 15 := be_swap
    have e3 : ab (va_up w 15 (!(w 15))) 20 = ab w 20 := ab_of (by decide)
    have e4 : be (va_up w 15 (!(w 15))) 20 = be w 20 := be_of (by decide)
    obtain ⟨J3, k1, k2, k3⟩ := cadd_R (w := va_up w 15 (!(w 15))) (J := J1) (a := s.2) (b := s.1) (by rw [e1, e2]; exact ⟨hR1.2, hR1.1⟩) (by rw [e3, e4]; exact h2) zu zd
    rw [e1, e2] at k2
    have hSt := St_swap (St_au (St_swap h) hA ht)
    obtain ⟨n1, n2, -, -⟩ := St_nms hSt ht
    obtain ⟨J5, m1, m2, m3⟩ := cnP_s (t := 0) (w := w) (J := J3) pa_15 ⟨k2.2, k2.1⟩ n1 n2
    refine ⟨J5, fun K => ?_, by rw [if_pos e]; exact m2, fun a ha => by rw [m3 a (by omega) (by omega), k3 a ha, f1 a ha]⟩
    unfold Fo_foldUp_58b Fo_foldUp_86 Fo_foldUp_100 Fo_foldUp_116
    rw [if_neg (nI_pos (by omega)), h1, bn1_s, i0, bn1_s, if_pos e, if_neg (by decide), nv_14_0, Pa_swap_s pa_15, bn1_s, k1, bn1_s, if_neg (by decide), nv_14_0, Pa_swap_s pa_15, bn1_s, sw2, nv_14_0, m1, bn1_s]
  · obtain ⟨J3, k1, k2, k3⟩ := cadd_R hR1 h2 zu zd
    have hSt := St_au h hA ht
    obtain ⟨n1, n2, -, -⟩ := St_nms hSt ht
    obtain ⟨J5, m1, m2, m3⟩ := cnP_s (t := 0) (w := w) (J := J3) pa_15 k2 n1 n2
    refine ⟨J5, fun K => ?_, by rw [if_neg e]; exact m2, fun a ha => by rw [m3 a (by omega) (by omega), k3 a ha, f1 a ha]⟩
    unfold Fo_foldUp_58b Fo_foldUp_86 Fo_foldUp_100 Fo_foldUp_116
    rw [if_neg (nI_pos (by omega)), h1, bn1_s, i0, bn1_s, if_neg e, if_pos rfl, k1, bn1_s, if_pos rfl, nv_14_0, m1, bn1_s]
theorem cfold_58 {L m : Nat} {w : Nat → Bool} {I : HI} {A : Nat → Int32} (hL : isLa L) (hm : m ≤ 6) (hc : I L 1 = nI m) (hrow : ∀ k, k < m → ∀ j, j < 5 → I (L + 2 + k) j = A (5 * k + j)) (ha : ∀ k, k < m → aok A k) (hv : vc A m ≤ 6) : ∀ (r i n : Nat) (J : HJ), i + r = m → r < n → RR 7 (J (ab w 15 + 1)) (J (be w 15 + 1)) (fo A m i) → ∃ J' : HJ, Fo_foldUp_58 I 14 L n J (nn w) (nI r + (-1)) = some (J', nn w) ∧ RR 7 (J' (ab w 15 + 1)) (J' (be w 15 + 1)) (fo A m m) ∧ fD J J'
  | 0, i, n + 1, J, hi, _, hR => by
    have e : i = m := by omega
    subst e
    refine ⟨J, ?_, hR, fun _ _ => rfl⟩
    show Fo_foldUp_58b I 14 L (Fo_foldUp_58 I 14 L n) J (nn w) _ = _
    unfold Fo_foldUp_58b
    rw [if_pos (by decide)]
  | r + 1, i, n + 1, J, hi, hn, hR => by
    obtain ⟨J2, g1, g2, g3⟩ := cfold_arm (w := w) (t := 6 - vc A (m - i)) hL hm hc (show r < m by omega) (hrow r (by omega)) hR (fo_St ha hv i (by omega)) (ha r (by omega)) (t_step hv hi)
    have er : r = m - 1 - i := by omega
    have g2' : RR 7 (J2 (ab w 15 + 1)) (J2 (be w 15 + 1)) (fo A m (i + 1)) := by
      show RR 7 _ _ (fstep A (m - 1 - i) (fo A m i))
      rw [← er]; exact g2
    obtain ⟨J3, l1, l2, l3⟩ := cfold_58 hL hm hc hrow ha hv r (i + 1) n J2 (by omega) (by omega) g2'
    refine ⟨J3, ?_, l2, fD_tr g3 l3⟩
    rw [nI_m1]
    show Fo_foldUp_58b I 14 L (Fo_foldUp_58 I 14 L n) J (nn w) _ = _
    rw [g1, l1]
/-- the class's fold of its ladder -/
theorem cfold_s {L m : Nat} {w : Nat → Bool} {I : HI} {J : HJ} {A : Nat → Int32} (hL : isLa L) (hm : m ≤ 6) (hc : I L 1 = nI m) (hrow : ∀ k, k < m → ∀ j, j < 5 → I (L + 2 + k) j = A (5 * k + j)) (ha : ∀ k, k < m → aok A k) (hv : vc A m ≤ 6) : ∃ J' : HJ, Fo_foldUp I 14 L J (nn w) = some (J', nn w) ∧ (m ≠ 0 → RR 7 (J' (ab w 15 + 1)) (J' (be w 15 + 1)) (FO A m)) ∧ fD J J' := by
  have q1 := ab_be (w := w) (p := 15)
  have po := isPa_ab pa_15 w
  have pb := isPa_be pa_15 w
  unfold Fo_foldUp Fo_foldUp_0 Fo_foldUp_47
  rw [bd_e, hc]
  by_cases h0 : m = 0
  · subst h0
    have i0 : La_item I (nn w) L (nI 0 - 1) 0 = some 0 := by
      unfold La_item La_item_0 La_item_31 La_item_32
      rw [if_pos (by decide), if_pos rfl]
    rw [i0, bn1_s, nv_14_0, pa_0 pa_15, Po_clear_s po, bn1_s, nv_14_0, pa_1' pa_15, Po_clear_s pb, bn1_s, nv_14_0, if_pos rfl, Pa_side_1s pa_15 (by decide), bn1_s, gd_of (po_dec pb), Po_put_s pb, bn1_s]
    refine ⟨_, by show Fo_foldUp_58b I 14 L (Fo_foldUp_58 I 14 L 255) _ (nn w) _ = _; unfold Fo_foldUp_58b; rw [if_pos (by decide)], fun h => absurd rfl h, fun r hr => by rw [va_up_of (by omega), va_up_of (by omega), va_up_of (by omega)]⟩
  · obtain ⟨r, rfl⟩ : ∃ r, m = r + 1 := ⟨m - 1, by omega⟩
    rw [show nI (r + 1) - 1 = nI r from by rw [← nI_1, Int32.add_sub_cancel]]
    have i0 : La_item I (nn w) L (nI r) 0 = some (A (5 * r)) := by
      have := La_item_s (w := w) (j := 0) (k := r) hL hm hc (by omega) (by decide)
      rw [hrow r (by omega) 0 (by decide)] at this
      exact this
    rw [i0, bn1_s, nv_14_0, pa_0 pa_15, Po_clear_s po, bn1_s, nv_14_0, pa_1' pa_15, Po_clear_s pb, bn1_s, nv_14_0]
    have fin : ∀ J1 : HJ, RR 7 (J1 (ab w 15 + 1)) (J1 (be w 15 + 1)) (fstart A r) → fD J J1 → ∃ J' : HJ, Fo_foldUp_58 I 14 L 256 J1 (nn w) (nI r) = some (J', nn w) ∧ (r + 1 ≠ 0 → RR 7 (J' (ab w 15 + 1)) (J' (be w 15 + 1)) (FO A (r + 1))) ∧ fD J J' := by
      intro J1 g1 g2
      obtain ⟨J3, l1, l2, l3⟩ := cfold_58 (w := w) hL hm hc hrow ha hv (r + 1) 0 256 J1 (by omega) (by omega) g1
      rw [nI_m1] at l1
      exact ⟨J3, l1, fun _ => by unfold FO; rw [if_neg h0]; exact l2, fD_tr g2 l3⟩
    unfold fstart at fin
    by_cases e : A (5 * r) = 0
    · rw [if_pos e, Pa_side_1s pa_15 (by decide), bn1_s, gd_of (po_dec pb), Po_put_s pb, bn1_s, pput0]
      rw [if_pos e] at fin
      refine fin _ ⟨fun k hk => ?_, fun k hk => ?_⟩ (fun r hr => by rw [va_up_of (by omega), va_up_of (by omega), va_up_of (by omega)])
      · rw [va_up_of (show ab w 15 + 1 ≠ be w 15 + 1 by omega), va_up_of (show ab w 15 + 1 ≠ be w 15 + 1 by omega), va_up_at, wrk_lt hk]; rfl
      · rw [va_up_at, va_up_at]
        show _ = k0 k
        unfold k0
        by_cases ek : k = 0
        · subst ek; rw [va_up_at, if_pos rfl]
        · rw [va_up_of ek, wrk_lt hk, if_neg ek]
    · rw [if_neg e, Pa_side_0s pa_15, bn1_s, gd_of (po_dec po), Po_put_s po, bn1_s, pput0]
      rw [if_neg e] at fin
      refine fin _ ⟨fun k hk => ?_, fun k hk => ?_⟩ (fun r hr => by rw [va_up_of (by omega), va_up_of (by omega), va_up_of (by omega)])
      · rw [va_up_at, va_up_of (show ab w 15 + 1 ≠ be w 15 + 1 by omega), va_up_at]
        show _ = k0 k
        unfold k0
        by_cases ek : k = 0
        · subst ek; rw [va_up_at, if_pos rfl]
        · rw [va_up_of ek, wrk_lt hk, if_neg ek]
      · rw [va_up_of (show be w 15 + 1 ≠ ab w 15 + 1 by omega), va_up_at, wrk_lt hk]; rfl
