theorem c3_congr {a a' d d' : Nat → Int64} {n k : Nat} (hk : k < n) (ha : ∀ j, j < n → a j = a' j) (hd : ∀ j, j < 3 → d j = d' j) : c3 a d k = c3 a' d' k := by
  unfold c3
  rw [ha k hk, hd 0 (by decide), hd 1 (by decide), hd 2 (by decide), ha (k - 1) (by omega), ha (k - 2) (by omega)]
theorem sA_congr {u u' d d' a a' b b' : Nat → Int64} {n k : Nat} (hk : k < n) (ha : ∀ j, j < n → a j = a' j) (hb : ∀ j, j < n → b j = b' j) (hu : ∀ j, j < 3 → u j = u' j) (hd : ∀ j, j < 3 → d j = d' j) : sA u d a b k = sA u' d' a' b' k := by
  unfold sA
  rw [c3_congr hk ha hd, c3_congr hk hb hu]
theorem nrm_congr {D : Int64} {f g : Nat → Int64} {k : Nat} (h : f k = g k) : nrm D f k = nrm D g k := by unfold nrm; rw [h]
/-- rows x, y hold the pair s, n numbers each -/
def RR (n : Nat) (x y : Nat → Int64) (s : PP) : Prop := (∀ k, k < n → x k = s.1 k) ∧ ∀ k, k < n → y k = s.2 k
theorem St_nms {t : Nat} {a b : Nat → Int64} (h : St t a b) (ht : t ≤ 6) : nms a ∧ nms b ∧ z7 a ∧ z7 b := by
  have p6 : 198 ^ t ≤ 198 ^ 6 := Nat.pow_le_pow_right (by decide) ht
  have c6 : 198 ^ 6 < 2 ^ 63 := by decide
  exact ⟨fun k _ => lb_nm (h k).1 (by omega), fun k _ => lb_nm (h k).2.1 (by omega), fun k h7 _ => ((h k).2.2 (by omega)).1, fun k h7 _ => ((h k).2.2 (by omega)).2⟩
def fM (J J' : HJ) : Prop := ∀ a, a < 16 ∨ 21 < a → J' a = J a
theorem mnP_s {t : Nat} {J : HJ} {a b : Nat → Int64} (hR : RR 14 (J 16) (J 17) (a, b)) (h : St t a b) (ht : t ≤ 6) : ∃ J' : HJ, Mo_asPair N_m 0 J = some J' ∧ RR 14 (J' 16) (J' 17) (nP a b) ∧ ∀ r, r ≠ 16 → r ≠ 17 → J' r = J r := by
  obtain ⟨h1, h2, h3, h4⟩ := St_nms h ht
  obtain ⟨r1, r2⟩ := hR
  have r1 : ∀ k, k < 14 → J 16 k = a k := r1
  have r2 : ∀ k, k < 14 → J 17 k = b k := r2
  refine ⟨_, Mo_asPair_s (fun k hk => by rw [r1 k (by omega)]; exact h1 k hk) (fun k hk => by rw [r2 k (by omega)]; exact h2 k hk) (fun k g1 g2 => by rw [r1 k g2]; exact h3 k g1 g2) (fun k g1 g2 => by rw [r2 k g2]; exact h4 k g1 g2), ⟨fun k hk => ?_, fun k hk => ?_⟩, fun r g1 g2 => by rw [va_up_of g2, va_up_of g1]⟩
  · rw [va_up_of (show (16 : Nat) ≠ 17 by decide), va_up_at, wrk_lt hk, dvs_congr (fun k hk => r1 k (by omega)) (fun k hk => r2 k (by omega))]
    exact nrm_congr (r1 k hk)
  · rw [va_up_at, wrk_lt hk, dvs_congr (fun k hk => r1 k (by omega)) (fun k hk => r2 k (by omega))]
    exact nrm_congr (r2 k hk)
theorem mturn_R {J : HJ} {a b : Nat → Int64} (hR : RR 14 (J 16) (J 17) (a, b)) : ∃ J' : HJ, Mo_turnsOver N_m 0 J = some J' ∧ RR 14 (J' 16) (J' 17) (b, a) ∧ ∀ r, r ≠ 16 → r ≠ 17 → J' r = J r := by
  refine ⟨_, mturn_s, ⟨fun k hk => ?_, fun k hk => ?_⟩, fun r g1 g2 => by rw [va_up_of g2, va_up_of g1]⟩
  · rw [va_up_of (show (16 : Nat) ≠ 17 by decide), va_up_at, wrk_lt hk]; exact hR.2 k hk
  · rw [va_up_at, wrk_lt hk]; exact hR.1 k hk
theorem madd_R {J : HJ} {a b u d : Nat → Int64} (hR : RR 14 (J 16) (J 17) (a, b)) (hU : ∀ j, j < 3 → J 18 j = u j ∧ J 19 j = d j) : ∃ J' : HJ, Mo_adds N_m 0 J = some J' ∧ RR 14 (J' 16) (J' 17) (sA u d a b, c3 b d) ∧ fM J J' := by
  obtain ⟨J', h1, h2, h3⟩ := madd_s (J := J)
  refine ⟨J', h1, ⟨fun k hk => ?_, fun k hk => ?_⟩, fun r hr => h3 r (by omega)⟩
  · rw [(h2 k hk).1]; exact sA_congr hk hR.1 hR.2 (fun j hj => (hU j hj).1) (fun j hj => (hU j hj).2)
  · rw [(h2 k hk).2]; exact c3_congr hk hR.2 (fun j hj => (hU j hj).2)
theorem fM_tr {J J' J'' : HJ} (h : fM J J') (h2 : fM J' J'') : fM J J'' := fun a ha => (h2 a ha).trans (h a ha)
theorem mfold_93 {I : HI} {J : HJ} {t r : Nat} {s : PP} (hr : r < 6) (hR : RR 14 (J 16) (J 17) s) (h : St t s.1 s.2) (hA : aok (I 5) r) (ht : t + (v1 (I 5 (5 * r + 1)) + v1 (I 5 (5 * r + 3))) ≤ 6) : ∃ J' : HJ, (∀ K, Mo_folds_93 I N_m 0 K J (nI r) = K J' (nI r + (-1))) ∧ RR 14 (J' 16) (J' 17) (fstep (I 5) r s) ∧ fM J J' := by
  obtain ⟨J1, h1, h2, h3⟩ := marm_s (I := I) (J := J) hr
  have hR1 : RR 14 (J1 16) (J1 17) (s.1, s.2) := by rw [h3 16 (by decide) (by decide), h3 17 (by decide) (by decide)]; exact hR
  have f1 : fM J J1 := fun a ha => h3 a (by omega) (by omega)
  unfold fstep
  by_cases e : I 5 (5 * r) = 1
  · obtain ⟨J2, g1, g2, g3⟩ := mturn_R hR1
    have hU : ∀ j, j < 3 → J2 18 j = au (I 5) r j ∧ J2 19 j = ad (I 5) r j := by rw [g3 18 (by decide) (by decide), g3 19 (by decide) (by decide)]; exact h2
    obtain ⟨J3, k1, k2, k3⟩ := madd_R g2 hU
    obtain ⟨J4, l1, l2, l3⟩ := mturn_R k2
    obtain ⟨J5, m1, m2, m3⟩ := mnP_s l2 (St_swap (St_au (St_swap h) hA ht)) ht
    refine ⟨J5, fun K => ?_, by rw [if_pos e]; exact m2, fun a ha => by rw [m3 a (by omega) (by omega), l3 a (by omega) (by omega), k3 a ha, g3 a (by omega) (by omega), f1 a ha]⟩
    unfold Mo_folds_93 Mo_folds_115 Mo_folds_124 Mo_folds_136
    rw [h1, bn1_s, mv_5, i5', gd_of (tm5 (by omega)), nI_clamp (by omega), if_pos e, if_neg (by decide), g1, bn1_s, k1, bn1_s, if_neg (by decide), l1, bn1_s, m1, bn1_s]
  · obtain ⟨J3, k1, k2, k3⟩ := madd_R hR1 h2
    obtain ⟨J5, m1, m2, m3⟩ := mnP_s k2 (St_au h hA ht) ht
    refine ⟨J5, fun K => ?_, by rw [if_neg e]; exact m2, fun a ha => by rw [m3 a (by omega) (by omega), k3 a ha, f1 a ha]⟩
    unfold Mo_folds_93 Mo_folds_115 Mo_folds_124 Mo_folds_136
    rw [h1, bn1_s, mv_5, i5', gd_of (tm5 (by omega)), nI_clamp (by omega), if_neg e, if_pos rfl, k1, bn1_s, if_pos rfl, m1, bn1_s]
theorem nI_m1 (k : Nat) : nI (k + 1) + (-1) = nI k := by
  rw [← nI_1, Int32.add_assoc, show (1 : Int32) + (-1) = 0 from rfl, Int32.add_zero]
theorem t_step {A : Nat → Int32} {m i r : Nat} (hv : vc A m ≤ 6) (hi : i + (r + 1) = m) : 6 - vc A (m - i) + (v1 (A (5 * r + 1)) + v1 (A (5 * r + 3))) ≤ 6 := by
  have e1 : m - i = r + 1 := by omega
  have hm : vc A (m - i) ≤ vc A m := by
    have := vc_mono (A := A) i (m - i)
    rwa [show m - i + i = m by omega] at this
  have hv1 : vc A (m - i) = vc A r + (v1 (A (5 * r + 1)) + v1 (A (5 * r + 3))) := by rw [e1]; rfl
  omega
theorem mfold_35 {I : HI} {m : Nat} (hm : m ≤ 6) (hc : I 0 6 = nI m) (ha : ∀ k, k < m → aok (I 5) k) (hv : vc (I 5) m ≤ 6) : ∀ (r i n : Nat) (J : HJ), 1 ≤ i → i + r = m → r < n → RR 14 (J 16) (J 17) (fo (I 5) m i) → ∃ J' : HJ, Mo_folds_35 I N_m 0 n J (nI r + (-1)) = some J' ∧ RR 14 (J' 16) (J' 17) (fo (I 5) m m) ∧ fM J J'
  | 0, i, n + 1, J, _, hi, _, hR => by
    have e : i = m := by omega
    subst e
    refine ⟨J, ?_, hR, fun _ _ => rfl⟩
    show Mo_folds_35b I N_m 0 (Mo_folds_35 I N_m 0 n) J _ = _
    unfold Mo_folds_35b
    rw [if_pos (by decide)]
  | r + 1, i, n + 1, J, h1, hi, hn, hR => by
    obtain ⟨J2, g1, g2, g3⟩ := mfold_93 (I := I) (t := 6 - vc (I 5) (m - i)) (show r < 6 by omega) hR (fo_St ha hv i (by omega)) (ha r (by omega)) (t_step hv hi)
    have er : r = m - 1 - i := by omega
    have g2' : RR 14 (J2 16) (J2 17) (fo (I 5) m (i + 1)) := by
      show RR 14 (J2 16) (J2 17) (fstep (I 5) (m - 1 - i) (fo (I 5) m i))
      rw [← er]; exact g2
    obtain ⟨J3, l1, l2, l3⟩ := mfold_35 hm hc ha hv r (i + 1) n J2 (by omega) (by omega) (by omega) g2'
    refine ⟨J3, ?_, l2, fM_tr g3 l3⟩
    rw [nI_m1]
    show Mo_folds_35b I N_m 0 (Mo_folds_35 I N_m 0 n) J _ = _
    unfold Mo_folds_35b
    rw [if_neg (nI_pos (by omega)), hc, if_neg (fun q => by rw [show (1 : Int32) = nI 1 from rfl, nI_sub (by omega)] at q; have := (nI_eq (by omega) (by omega)).mp q; omega), g1, l1]
/-- the fold of m arms -/
def FO (A : Nat → Int32) (m : Nat) : PP := if m = 0 then (k00, k00) else fo A m m
theorem mfold_s {I : HI} {J : HJ} {m : Nat} (hm : m ≤ 6) (hc : I 0 6 = nI m) (ha : ∀ k, k < m → aok (I 5) k) (hv : vc (I 5) m ≤ 6) : ∃ J' : HJ, Mo_folds I N_m 0 J = some J' ∧ RR 14 (J' 16) (J' 17) (FO (I 5) m) ∧ fM J J' := by
  unfold Mo_folds Mo_folds_0
  have key := up_loop (fun n (S : HJ) y => Mo_folds_2 I N_m 0 n S y) (fun k => va_up (va_up J 16 (wrk k (J 16) k00)) 17 (wrk k (J 17) k00)) (Mo_folds_35 I N_m 0 256 (va_up (va_up J 16 (wrk 14 (J 16) k00)) 17 (wrk 14 (J 17) k00)) (nI m - 1)) 14 (fun n k hk => ?_) (fun n => ?_) 256 0 (by decide) (by decide)
  · rw [wrk_0, wrk_0, va_up_id, va_up_id] at key
    have key' : Mo_folds_2 I N_m 0 256 J 0 = Mo_folds_35 I N_m 0 256 (va_up (va_up J 16 (wrk 14 (J 16) k00)) 17 (wrk 14 (J 17) k00)) (nI m - 1) := key
    rw [key']
    have hR0 : RR 14 (va_up (va_up J 16 (wrk 14 (J 16) k00)) 17 (wrk 14 (J 17) k00) 16) (va_up (va_up J 16 (wrk 14 (J 16) k00)) 17 (wrk 14 (J 17) k00) 17) (k00, k00) := by
      refine ⟨fun k hk => ?_, fun k hk => ?_⟩
      · rw [va_up_of (show (16 : Nat) ≠ 17 by decide), va_up_at, wrk_lt hk]
      · rw [va_up_at, wrk_lt hk]
    have hf0 : fM J (va_up (va_up J 16 (wrk 14 (J 16) k00)) 17 (wrk 14 (J 17) k00)) := fun a h => by rw [va_up_of (by omega), va_up_of (by omega)]
    revert hR0 hf0
    generalize va_up (va_up J 16 (wrk 14 (J 16) k00)) 17 (wrk 14 (J 17) k00) = J0
    intro hR0 hf0
    unfold FO
    by_cases h0 : m = 0
    · subst h0
      refine ⟨J0, ?_, by rw [if_pos rfl]; exact hR0, hf0⟩
      show Mo_folds_35b I N_m 0 (Mo_folds_35 I N_m 0 255) J0 _ = _
      unfold Mo_folds_35b
      rw [if_pos (by decide)]
    · rw [if_neg h0]
      obtain ⟨r, rfl⟩ : ∃ r, m = r + 1 := ⟨m - 1, by omega⟩
      rw [show nI (r + 1) - 1 = nI r from by rw [← nI_1, Int32.add_sub_cancel]]
      have t0 : inb (0 : Int32) (Tm 16).2 = true := tm16 (k := 0) (by decide)
      have t1 : inb (0 : Int32) (Tm 17).2 = true := tm17 (k := 0) (by decide)
      have fst : ∃ J1 : HJ, (∀ K, Mo_folds_35b I N_m 0 K J0 (nI r) = Mo_folds_93 I N_m 0 K J1 (nI r)) ∧ RR 14 (J1 16) (J1 17) (fstart (I 5) r) ∧ fM J0 J1 := by
        have u : ∀ x y : Int64, RR 14 (up2 (up2 J0 16 0 x) 17 0 y 16) (up2 (up2 J0 16 0 x) 17 0 y 17) (fun j => if j = 0 then x else 0, fun j => if j = 0 then y else 0) ∧ fM J0 (up2 (up2 J0 16 0 x) 17 0 y) := by
          intro x y
          refine ⟨⟨fun k hk => ?_, fun k hk => ?_⟩, fun a h => by rw [up2_of (by omega), up2_of (by omega)]⟩
          · rw [up2_of (show (16 : Nat) ≠ 17 by decide), up2_at]
            by_cases e : k = 0
            · subst e; rw [va_up_at]; rfl
            · rw [va_up_of e, hR0.1 k hk]; exact (if_neg e).symm
          · rw [up2_at, up2_of (show (17 : Nat) ≠ 16 by decide)]
            by_cases e : k = 0
            · subst e; rw [va_up_at]; rfl
            · rw [va_up_of e, hR0.2 k hk]; exact (if_neg e).symm
        have k00' : (fun j : Nat => if j = 0 then (0 : Int64) else 0) = k00 := by funext j; unfold k00; split <;> rfl
        unfold fstart
        by_cases e : I 5 (5 * r) = 0
        · refine ⟨up2 (up2 J0 16 0 0) 17 0 1, fun K => ?_, ?_, (u 0 1).2⟩
          · unfold Mo_folds_35b Mo_folds_70 Mo_folds_92
            rw [if_neg (nI_pos (by omega)), hc, if_pos (show nI r = nI (r + 1) - 1 from by rw [← nI_1, Int32.add_sub_cancel]), mv_23, mv_5, i5', gd_of (tm5 (by omega)), nI_clamp (by omega), if_pos e, gd_of t0, bd_e, mv_24, mv_5, gd_of (tm5 (by omega)), if_pos e, gd_of t1, bd_e, z32]
          · have := (u 0 1).1
            rw [k00'] at this
            rw [if_pos e]; exact this
        · refine ⟨up2 (up2 J0 16 0 1) 17 0 0, fun K => ?_, ?_, (u 1 0).2⟩
          · unfold Mo_folds_35b Mo_folds_70 Mo_folds_92
            rw [if_neg (nI_pos (by omega)), hc, if_pos (show nI r = nI (r + 1) - 1 from by rw [← nI_1, Int32.add_sub_cancel]), mv_23, mv_5, i5', gd_of (tm5 (by omega)), nI_clamp (by omega), if_neg e, gd_of t0, bd_e, mv_24, mv_5, gd_of (tm5 (by omega)), if_neg e, gd_of t1, bd_e, z32]
          · have := (u 1 0).1
            rw [k00'] at this
            rw [if_neg e]; exact this
      obtain ⟨J1, f1, f2, f3⟩ := fst
      obtain ⟨J2, g1, g2, g3⟩ := mfold_93 (I := I) (t := 6 - vc (I 5) (r + 1 - 0)) (show r < 6 by omega) f2 (fo_St ha hv 0 (by omega)) (ha r (by omega)) (t_step (i := 0) hv (by omega))
      obtain ⟨J3, l1, l2, l3⟩ := mfold_35 hm hc ha hv r 1 255 J2 (by omega) (by omega) (by omega) g2
      refine ⟨J3, ?_, l2, fM_tr hf0 (fM_tr f3 (fM_tr g3 l3))⟩
      show Mo_folds_35b I N_m 0 (Mo_folds_35 I N_m 0 255) J0 _ = _
      rw [f1, g1, l1]
  · show Mo_folds_2b I N_m 0 (Mo_folds_2 I N_m 0 n) _ (nI k) = _
    unfold Mo_folds_2b
    rw [if_neg (n14 hk), mv_23, gd_of (tm16 hk), bd_e, mv_24, gd_of (tm17 hk), bd_e, nI_clamp (by omega), up2_skip (by decide), up2_va, nI_1, ← wrk_s (f := J 16) (g := k00), ← wrk_s (f := J 17) (g := k00)]
    rfl
  · show Mo_folds_2b I N_m 0 (Mo_folds_2 I N_m 0 n) _ (nI 14) = _
    unfold Mo_folds_2b
    rw [if_pos (by decide), bd_e, hc]
