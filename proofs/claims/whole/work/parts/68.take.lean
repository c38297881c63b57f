theorem ctake_15 {w : Nat → Bool} {I : HI} {J : HJ} : ∀ m k n, m + k = 14 → m < n → Lm_take_15 I (nn w) 0 n J (nI k) = if alq (fun j => wn (num (J (ab w 15 + 1)) (J (be w 15 + 1)) j)) m k = true then Lm_take_15b I (nn w) 0 (fun _ _ => none) J (nI 14) else some (J, -5)
  | 0, k, n + 1, hk, _ => by
    have e : k = 14 := by omega
    subst e
    rw [if_pos (show alq _ 0 14 = true from rfl)]
    show Lm_take_15b I (nn w) 0 (Lm_take_15 I (nn w) 0 n) J (nI 14) = _
    unfold Lm_take_15b
    rw [if_pos (by decide), if_pos (by decide)]
  | m + 1, k, n + 1, hk, hn => by
    show Lm_take_15b I (nn w) 0 (Lm_take_15 I (nn w) 0 n) J (nI k) = if (wn (num (J (ab w 15 + 1)) (J (be w 15 + 1)) k) && alq (fun j => wn (num (J (ab w 15 + 1)) (J (be w 15 + 1)) j)) m (k + 1)) = true then _ else _
    have ih := ctake_15 (w := w) (I := I) (J := J) m (k + 1) n (by omega) (by omega)
    conv => lhs; unfold Lm_take_15b
    rw [if_neg (n14 (show k < 14 by omega)), nv_0_2, nv_14_0, Pa_number_s pa_15 (by omega), bn1_s, Lm_isWishNumber_s, bn1_s, nI_1]
    cases e : wn (num (J (ab w 15 + 1)) (J (be w 15 + 1)) k)
    · rw [if_pos b2i_f, Bool.false_and]; rfl
    · rw [if_neg b2i_t, Bool.true_and, ih]
theorem mtake_69 {I : HI} {J : HJ} : Mo_take_69 N_m 0 256 I J 0 = Mo_take_69b N_m 0 (fun _ _ _ => none) (va_up I 4 (pwk 7 (I 4) (J 16) (J 17))) J (nI 7) := by
  have key := up_loop (fun n (S : HI × HJ) x => Mo_take_69 N_m 0 n S.1 S.2 x) (fun k => (va_up I 4 (pwk k (I 4) (J 16) (J 17)), J)) (Mo_take_69b N_m 0 (fun _ _ _ => none) (va_up I 4 (pwk 7 (I 4) (J 16) (J 17))) J (nI 7)) 7 (fun n k hk => ?_) (fun n => ?_) 256 0 (by decide) (by decide)
  · have e0 : pwk 0 (I 4) (J 16) (J 17) = I 4 := by
      funext j
      unfold pwk
      rw [if_neg (by omega), if_neg (by omega)]
    rw [e0, va_up_id] at key
    exact key
  · show Mo_take_69b N_m 0 (Mo_take_69 N_m 0 n) _ _ (nI k) = _
    unfold Mo_take_69b
    dsimp only
    rw [if_neg (n7 hk), mv_4, mv_23, gd_of (tm16 (by omega)), gd_of (tm4i (by omega)), bd_e, mv_4, mv_24, gd_of (tm17 (by omega)), show (7 : Int32) + nI k = nI (7 + k) from nI_add 7 k, gd_of (tm4i (by omega)), bd_e, nI_clamp (by omega), nI_clamp (by omega), up2_va, up2_va, pwk_s hk, nI_1]
  · show Mo_take_69b N_m 0 (Mo_take_69 N_m 0 n) _ _ (nI 7) = _
    unfold Mo_take_69b
    rw [if_pos (by decide), if_pos (by decide)]
theorem mtake_16 {I : HI} {J : HJ} : ∀ m k n, m + k = 7 → m < n → Mo_take_16 N_m 0 n I J (nI k) = if alq (fun j => wn (J 16 j) && wn (J 17 j)) m k = true then Mo_take_69 N_m 0 256 I J 0 else some (I, J, -5)
  | 0, k, n + 1, hk, _ => by
    have e : k = 7 := by omega
    subst e
    rw [if_pos (show alq _ 0 7 = true from rfl)]
    show Mo_take_16b N_m 0 (Mo_take_16 N_m 0 n) I J (nI 7) = _
    unfold Mo_take_16b
    rw [if_pos (by decide)]
  | m + 1, k, n + 1, hk, hn => by
    show Mo_take_16b N_m 0 (Mo_take_16 N_m 0 n) I J (nI k) = if ((wn (J 16 k) && wn (J 17 k)) && alq (fun j => wn (J 16 j) && wn (J 17 j)) m (k + 1)) = true then _ else _
    have ih := mtake_16 (I := I) (J := J) m (k + 1) n (by omega) (by omega)
    unfold Mo_take_16b
    rw [if_neg (n7 (show k < 7 by omega)), mv_23, gd_of (tm16 (by omega)), Mo_in_9, bn1_s, mv_24, gd_of (tm17 (by omega)), Mo_in_9, bn1_s, nI_clamp (by omega), nI_1, ih]
    cases e : wn (J 16 k)
    · rw [if_pos b2i_f]; rfl
    · rw [if_neg b2i_t]
      cases e2 : wn (J 17 k)
      · rw [if_pos b2i_f]; rfl
      · rw [if_neg b2i_t]; rfl
theorem take_ok {w : Nat → Bool} {I I2 : HI} {J J2 : HJ} {m : Nat} (hL : RL m (I 6 1) (I2 0 6) (fun k => I (8 + k)) (I2 5)) (hW : RW (J (ab w 1 + 1)) (J (be w 1 + 1)) (I2 4)) (hF : m ≠ 0 → RR 7 (J (ab w 15 + 1)) (J (be w 15 + 1)) (FO (I2 5) m)) : ∃ (J' : HJ) (I2' : HI) (J2' : HJ) (r : Int32), Lm_take I (nn w) 0 J = some (J', r) ∧ Mo_take N_m 0 I2 J2 = some (I2', J2', r) ∧ RW (J' (ab w 1 + 1)) (J' (be w 1 + 1)) (I2' 4) ∧ (∀ a, a ≠ 3 → a ≠ 5 → J' a = J a) ∧ (∀ a, a ≠ 4 → I2' a = I2 a) ∧ fM J2 J2' := by
  obtain ⟨hm, hc, hc2, -, ha, hv⟩ := id hL
  have q1 := ab_be (w := w) (p := 1)
  have q2 := ab_be (w := w) (p := 15)
  unfold Lm_take Lm_take_0 Mo_take Mo_take_0
  rw [nv_0_1, hc, hc2]
  by_cases h0 : m = 0
  · subst h0
    rw [if_pos (by decide), if_pos (by decide)]
    exact ⟨J, I2, J2, -3, rfl, rfl, hW, fun _ _ _ => rfl, fun _ _ => rfl, fun _ _ => rfl⟩
  · have e0 : ¬ nI m = 0 := fun q => h0 ((nI_eq (b := 0) (by omega) (by decide)).mp q)
    obtain ⟨J', h1, h2, h3⟩ := mfold_s (J := J2) hm hc2 ha hv
    obtain ⟨f1, f2⟩ := hF h0
    rw [if_neg e0, if_neg e0, h1, bn1_s, show Lm_take_15 I (nn w) 0 256 J 0 = _ from ctake_15 14 0 256 (by decide) (by decide), show Mo_take_16 N_m 0 256 I2 J' 0 = _ from mtake_16 7 0 256 (by decide) (by decide)]
    have rA : ∀ k, k < 7 → J' 16 k = J (ab w 15 + 1) k := fun k hk => (h2.1 k (by omega)).trans (f1 k hk).symm
    have rB : ∀ k, k < 7 → J' 17 k = J (be w 15 + 1) k := fun k hk => (h2.2 k (by omega)).trans (f2 k hk).symm
    have ee : alq (fun j => wn (num (J (ab w 15 + 1)) (J (be w 15 + 1)) j)) 14 0 = alq (fun j => wn (J' 16 j) && wn (J' 17 j)) 7 0 := by
      rw [Bool.eq_iff_iff, alq_iff, alq_iff]
      constructor
      · intro h j _ hj
        have g1 := h j (by omega) (by omega)
        have g2 := h (7 + j) (by omega) (by omega)
        unfold num at g1 g2
        rw [if_pos (by omega)] at g1
        rw [if_neg (by omega), show 7 + j - 7 = j by omega] at g2
        rw [rA j (by omega), rB j (by omega), g1, g2]; rfl
      · intro h j _ hj
        unfold num
        by_cases h7 : j < 7
        · have := h j (by omega) (by omega)
          rw [Bool.and_eq_true, rA j h7] at this
          rw [if_pos h7]; exact this.1
        · have := h (j - 7) (by omega) (by omega)
          rw [Bool.and_eq_true, rB (j - 7) (by omega)] at this
          rw [if_neg h7]; exact this.2
    rw [ee]
    cases hall : alq (fun j => wn (J' 16 j) && wn (J' 17 j)) 7 0 with
    | false =>
      rw [if_neg (by decide), if_neg (by decide)]
      exact ⟨J, I2, J', -5, rfl, rfl, hW, fun _ _ _ => rfl, fun _ _ => rfl, h3⟩
    | true =>
      have hw := (alq_iff 7 0).mp hall
      have hwa : ∀ k, k < 7 → wn (J' 16 k) = true ∧ wn (J' 17 k) = true := fun k hk => by
        have := hw k (by omega) (by omega)
        rw [Bool.and_eq_true] at this
        exact this
      rw [if_pos rfl, if_pos rfl, mtake_69]
      unfold Lm_take_15b Mo_take_69b
      rw [if_pos (by decide), if_pos (by decide), nv_0_0, nv_0_2, nv_14_0, Pa_load_d pa_1 pa_15 (by omega), bn1_s, nv_0_0, Pa_greaterDegree_s pa_1, bn1_s]
      have hR : RW (va_up (va_up J (ab w 1 + 1) (wrk 7 (J (ab w 1 + 1)) (J (ab w 15 + 1)))) (be w 1 + 1) (wrk 7 (J (be w 1 + 1)) (J (be w 15 + 1))) (ab w 1 + 1)) (va_up (va_up J (ab w 1 + 1) (wrk 7 (J (ab w 1 + 1)) (J (ab w 15 + 1)))) (be w 1 + 1) (wrk 7 (J (be w 1 + 1)) (J (be w 15 + 1))) (be w 1 + 1)) (va_up I2 4 (pwk 7 (I2 4) (J' 16) (J' 17)) 4) := by
        rw [va_up_of (show ab w 1 + 1 ≠ be w 1 + 1 by omega), va_up_at, va_up_at, va_up_at]
        refine ⟨fun k hk => ?_, fun k hk => ?_, fun k hk => ?_⟩
        · unfold pwk
          rw [wrk_lt hk, if_pos hk, (wn_32 (hwa k hk).1).1, rA k hk]
        · unfold pwk
          rw [wrk_lt hk, if_neg (by omega), if_pos (by omega), show 7 + k - 7 = k by omega, (wn_32 (hwa k hk).2).1, rB k hk]
        · unfold pwk
          by_cases h7 : k < 7
          · rw [if_pos h7]; exact (wn_32 (hwa k h7).1).2
          · rw [if_neg h7, if_pos (by omega)]; exact (wn_32 (hwa (k - 7) (by omega)).2).2
      generalize hJ3 : va_up (va_up J (ab w 1 + 1) (wrk 7 (J (ab w 1 + 1)) (J (ab w 15 + 1)))) (be w 1 + 1) (wrk 7 (J (be w 1 + 1)) (J (be w 15 + 1))) = J3 at hR ⊢
      generalize hI3 : va_up I2 4 (pwk 7 (I2 4) (J' 16) (J' 17)) = I3 at hR ⊢
      rw [show Mo_degree I3 N_m 0 0 = some (dgb 7 (zi (I3 4) 0)) from Mo_degree_s (p := 0) (by decide), bn1_s, show Mo_degree I3 N_m 0 1 = some (dgb 7 (zi (I3 4) 1)) from Mo_degree_s (p := 1) (by decide), bn1_s, dgb_congr 7 (fun j hj => RW_za hR hj), dgb_congr 7 (fun j hj => RW_zb hR hj)]
      unfold Mo_greater Mo_greater_0
      have gd2 : (if dgb 7 (zi (I3 4) 0) ≤ dgb 7 (zi (I3 4) 1) then some (dgb 7 (zi (I3 4) 1)) else some (dgb 7 (zi (I3 4) 0))) = some (if dgb 7 (zi (I3 4) 0) < dgb 7 (zi (I3 4) 1) then dgb 7 (zi (I3 4) 1) else dgb 7 (zi (I3 4) 0)) := by
        by_cases e1 : dgb 7 (zi (I3 4) 0) < dgb 7 (zi (I3 4) 1)
        · rw [if_pos e1, if_pos (Int32.le_iff_toInt_le.mpr (by have := Int32.lt_iff_toInt_lt.mp e1; omega))]
        · rw [if_neg e1]
          by_cases e2 : dgb 7 (zi (I3 4) 0) ≤ dgb 7 (zi (I3 4) 1)
          · rw [if_pos e2]
            refine congrArg some (Int32.toInt_inj.mp ?_)
            have h5 := Int32.le_iff_toInt_le.mp e2
            have h6 : ¬ (dgb 7 (zi (I3 4) 0)).toInt < (dgb 7 (zi (I3 4) 1)).toInt := fun q => e1 (Int32.lt_iff_toInt_lt.mpr q)
            omega
          · rw [if_neg e2]
      rw [gd2, bn1_s]
      refine ⟨J3, I3, J', _, rfl, rfl, hR, fun a g1 g2 => ?_, fun a g => ?_, h3⟩
      · rw [← hJ3, va_up_of (by omega), va_up_of (by omega)]
      · rw [← hI3, va_up_of g]
