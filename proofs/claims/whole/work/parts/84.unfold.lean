theorem tm6 {k : Nat} (h : k < 40) : inb (nI k) (Tm 6).2 = true := inb_nI h (by decide)
theorem lload_26 {w : Nat → Bool} {I : HI} {K : HI → Int32 → Option HI} {m k : Nat} (hm : m ≤ 6) (hc : I 31 1 = nI m) (hk : k < m) : La_load_26 (nn w) 6 31 K 256 I (nI k) 0 = K (va_up I (8 + k) (wrk 5 (I (8 + k)) (I (33 + k)))) (nI (k + 1)) := by
  have key := up_loop (fun n (S : HI) y => La_load_26 (nn w) 6 31 K n S (nI k) y) (fun j => va_up I (8 + k) (wrk j (I (8 + k)) (I (33 + k)))) (K (va_up I (8 + k) (wrk 5 (I (8 + k)) (I (33 + k)))) (nI (k + 1))) 5 (fun n j hj => ?_) (fun n => ?_) 256 0 (by decide) (by decide)
  · rw [wrk_0, va_up_id] at key
    exact key
  · show La_load_26b (nn w) 6 31 K (La_load_26 (nn w) 6 31 K n) _ (nI k) (nI j) = _
    unfold La_load_26b
    have it : La_item (va_up I (8 + k) (wrk j (I (8 + k)) (I (33 + k)))) (nn w) 31 (nI k) (nI j) = some (I (33 + k) j) := by
      rw [La_item_s la_31 hm (by rw [va_up_of (show (31 : Nat) ≠ 8 + k by omega)]; exact hc) hk hj, va_up_of (show 31 + 2 + k ≠ 8 + k by omega)]
    rw [if_neg (n5 hj), la_0 la_6, gd_of (la_i la_6 (by omega)), nI_clamp (by omega), la_1 la_6 (by omega), it, bn1_s, gd_of (la_j la_6 (by omega) hj), bd_e, nI_clamp (by omega), nI_1]
    show La_load_26 (nn w) 6 31 K n (up2 (va_up I (8 + k) (wrk j (I (8 + k)) (I (33 + k)))) (8 + k) j (I (33 + k) j)) (nI k) (nI (j + 1)) = _
    rw [up2_va, wrk_s]
  · show La_load_26b (nn w) 6 31 K (La_load_26 (nn w) 6 31 K n) _ (nI k) (nI 5) = _
    unfold La_load_26b
    rw [if_pos (by decide), nI_1]
theorem lload_10 {w : Nat → Bool} {I : HI} {m : Nat} (hm : m ≤ 6) (hc : I 31 1 = nI m) (h6 : I 6 1 = nI m) : ∀ (r k n : Nat) (I0 : HI), k + r = m → r < n → (∀ a, a < 8 ∨ 13 < a → I0 a = I a) → (∀ i, i < k → ∀ j, j < 5 → I0 (8 + i) j = I (33 + i) j) → ∃ I' : HI, La_load_10 (nn w) 6 31 n I0 (nI k) = some I' ∧ (∀ a, a < 8 ∨ 13 < a → I' a = I a) ∧ ∀ i, i < m → ∀ j, j < 5 → I' (8 + i) j = I (33 + i) j
  | 0, k, n + 1, I0, hk, _, f, g => by
    have e : k = m := by omega
    subst e
    refine ⟨I0, ?_, f, g⟩
    show La_load_10b (nn w) 6 31 (La_load_10 (nn w) 6 31 n) I0 (nI k) = _
    unfold La_load_10b
    rw [f 6 (by omega), h6, if_pos (Int32.le_refl _)]
  | r + 1, k, n + 1, I0, hk, hn, f, g => by
    have e33 : I0 (33 + k) = I (33 + k) := f _ (by omega)
    obtain ⟨I', h1, h2⟩ := lload_10 hm hc h6 r (k + 1) n (va_up I0 (8 + k) (wrk 5 (I0 (8 + k)) (I0 (33 + k)))) (by omega) (by omega) (fun a ha => by rw [va_up_of (by omega)]; exact f a ha) (fun i hi j hj => by
      by_cases ei : i = k
      · subst ei; rw [va_up_at, wrk_lt hj, e33]
      · rw [va_up_of (by omega)]; exact g i (by omega) j hj)
    refine ⟨I', ?_, h2⟩
    show La_load_10b (nn w) 6 31 (La_load_10 (nn w) 6 31 n) I0 (nI k) = _
    unfold La_load_10b
    rw [f 6 (by omega), h6, if_neg (nI_ge (by omega) (by omega)), if_neg (n6 (by omega)), lload_26 hm (by rw [f 31 (by omega)]; exact hc) (by omega), h1]
theorem lload_s {w : Nat → Bool} {I : HI} {m : Nat} (hm : m ≤ 6) (hc : I 31 1 = nI m) : ∃ I' : HI, La_load (nn w) 6 31 I = some I' ∧ I' 6 1 = nI m ∧ (∀ a, a < 6 ∨ a = 7 ∨ 13 < a → I' a = I a) ∧ ∀ i, i < m → ∀ j, j < 5 → I' (8 + i) j = I (33 + i) j := by
  unfold La_load La_load_0
  rw [bd_e, hc]
  obtain ⟨I', h1, h2, h3⟩ := lload_10 (w := w) (I := up2 I 6 1 (nI m)) hm (by rw [up2_of (by decide)]; exact hc) (by rw [up2_at, va_up_at]) m 0 256 (up2 I 6 1 (nI m)) (by omega) (by omega) (fun _ _ => rfl) (fun i hi => absurd hi (by omega))
  refine ⟨I', h1, by rw [h2 6 (by omega), up2_at, va_up_at], fun a ha => ?_, fun i hi j hj => ?_⟩
  · rw [h2 a (by omega), up2_of (by omega)]
  · rw [h3 i hi j hj, up2_of (by omega)]
theorem mload_s {I : HI} {J : HJ} {p v : Int32} {m : Nat} (hm : m ≤ 6) (hc : I 0 6 = nI m) : Mo_unfold_37 N_m 0 p 256 I J v 0 = some (va_up I 5 (wrk (5 * m) (I 5) (I 6)), J, v) := by
  have key := up_loop (fun n (S : HI) y => Mo_unfold_37 N_m 0 p n S J v y) (fun k => va_up I 5 (wrk k (I 5) (I 6))) (some (va_up I 5 (wrk (5 * m) (I 5) (I 6)), J, v)) (5 * m) (fun n k hk => ?_) (fun n => ?_) 256 0 (by omega) (by omega)
  · rw [wrk_0, va_up_id] at key
    exact key
  · show Mo_unfold_37b N_m 0 p (Mo_unfold_37 N_m 0 p n) _ J v (nI k) = _
    unfold Mo_unfold_37b
    rw [va_up_of (show (0 : Nat) ≠ 5 by decide), hc, i5', if_neg (nI_ge hk (by omega)), mv_5, mv_7, gd_of (tm6 (by omega)), gd_of (tm5 (by omega)), bd_e, nI_clamp (by omega), va_up_of (show (6 : Nat) ≠ 5 by decide), up2_va, wrk_s, nI_1]
  · show Mo_unfold_37b N_m 0 p (Mo_unfold_37 N_m 0 p n) _ J v (nI (5 * m)) = _
    unfold Mo_unfold_37b
    rw [va_up_of (show (0 : Nat) ≠ 5 by decide), hc, i5', if_pos (Int32.le_refl _)]
/-- what is still to be shown of the ways -/
def wouldS : Prop := ∀ (w : Nat → Bool) (I : HI) (J : HJ) (I2 : HI) (J2 : HJ), Body w I J I2 J2 → ∀ x0 : Int32, ∃ (w' : Nat → Bool) (I' : HI) (J' : HJ) (I2' : HI) (J2' : HJ) (r : Int32), Lm_would 0 x0 I J (nn w) = some (I', J', nn w', r) ∧ Mo_would N_m 0 x0 I2 J2 = some (I2', J2', r) ∧ Body w' I' J' I2' J2' ∧ (0 ≤ r → ∃ m, RL m (I' 31 1) (I2' 0 8) (fun k => I' (33 + k)) (I2' 6))
theorem o_would_of (h : wouldS) : ok_would Rel := by
  rintro I J _ I2 J2 _ ⟨w, rfl, rfl, hB⟩ x0
  obtain ⟨w', I', J', I2', J2', r, h1, h2, h3, -⟩ := h w I J I2 J2 hB x0
  exact ⟨I', J', nn w', I2', J2', r, h1, h2, w', rfl, rfl, h3⟩
theorem o_unfold_of (h : wouldS) : ok_unfold Rel := by
  rintro I J _ I2 J2 _ ⟨w, rfl, rfl, hB⟩ x0
  obtain ⟨w', I', J', I2', J2', r, h1, h2, h3, h4⟩ := h w I J I2 J2 hB x0
  unfold Lm_unfold Lm_unfold_0
  rw [h1, bn4_s]
  unfold Mo_unfold Mo_unfold_0
  unfold Mo_would Mo_would_0 at h2
  rw [Mo_in_3s, bn1_s] at h2 ⊢
  cases hb : inb x0 4 with
  | false =>
    rw [hb, if_pos b2i_f] at h2
    rw [if_pos b2i_f, h2]
    have er : r = -2 := by
      have := congrArg (fun z => z.map (fun t => t.2.2)) h2
      simp at this
      exact this.symm
    subst er
    rw [if_pos (by decide)]
    exact ⟨I', J', _, I2', J2', -2, rfl, rfl, w', rfl, rfl, h3⟩
  | true =>
    rw [hb, if_neg b2i_t, bn3_id] at h2
    rw [if_neg b2i_t, h2, bn3_s]
    by_cases hr : r < 0
    · have hr' : ¬ (0 : Int32) ≤ r := Int32.not_le.mpr hr
      rw [if_pos hr, if_neg hr']
      exact ⟨I', J', _, I2', J2', r, rfl, rfl, w', rfl, rfl, h3⟩
    · have hr' : (0 : Int32) ≤ r := Int32.not_lt.mp hr
      rw [if_neg hr, if_pos hr']
      obtain ⟨m, hm, hc, hc2, hrow, ha, hv⟩ := h4 hr'
      obtain ⟨Ia, a1, a2, a3, a4⟩ := lload_s (w := w') hm hc
      have eA : ∀ t, t < 5 * m → wrk (5 * m) (I2' 5) (I2' 6) t = I2' 6 t := fun t ht => wrk_lt ht
      have na : ∀ k, k < m → aok (wrk (5 * m) (I2' 5) (I2' 6)) k := fun k hk => aok_congr (fun j hj => (eA _ (by omega)).symm) (ha k hk)
      have nvc : vc (wrk (5 * m) (I2' 5) (I2' 6)) m ≤ 6 := by rw [vc_congr (B := I2' 6) m eA]; exact hv
      have nrow : ∀ k, k < m → ∀ j, j < 5 → Ia (8 + k) j = wrk (5 * m) (I2' 5) (I2' 6) (5 * k + j) := fun k hk j hj => by rw [a4 k hk j hj, eA _ (by omega)]; exact hrow k hk j hj
      obtain ⟨Ib, Jb, b1, b2, b3, b4, b5⟩ := changed_s (w := w') (J := J') hm a2 nrow na nvc
      rw [nv_0_1, nv_0_3, nv_30_0, a1, bn1_s, b1, bn3_s, bd_e, hc2, mload_s hm (by rw [up2_at, va_up_at])]
      refine ⟨Ib, Jb, _, _, J2', r, rfl, rfl, w', rfl, rfl, ?_⟩
      have e5 : va_up (up2 I2' 0 6 (nI m)) 5 (wrk (5 * m) (up2 I2' 0 6 (nI m) 5) (up2 I2' 0 6 (nI m) 6)) 5 = wrk (5 * m) (I2' 5) (I2' 6) := by rw [va_up_at, up2_of (by decide), up2_of (by decide)]
      have l1 : Ib 6 1 = nI m := by rw [b4 6 (by decide) (by decide)]; exact a2
      refine body_L (m' := m) h3 ⟨hm, l1, by rw [va_up_of (show (0 : Nat) ≠ 5 by decide), up2_at, va_up_at], fun k hk j hj => ?_, ?_, ?_⟩ ?_ ?_ ⟨fun a g1 g2 g3 => ?_, b5, fun a g1 g2 => ?_, fun k hk => ?_⟩
      · show Ib (8 + k) j = _
        rw [b4 (8 + k) (by omega) (by omega), e5]; exact nrow k hk j hj
      · rw [e5]; exact na
      · rw [e5]; exact nvc
      · rw [e5]; exact b2
      · rw [e5]; exact b3
      · rw [b4 a g2 g3, a3 a (by omega)]
      · rw [va_up_of g2, up2_of g1]
      · rw [va_up_of (show (0 : Nat) ≠ 5 by decide), up2_at, va_up_of hk]
theorem all_ok (h : wouldS) : ok_all Rel := ⟨o_tell, o_told, o_turn, o_reverse, o_read, o_info, o_reactance, o_arm, o_back, o_unfold_of h, o_would_of h, o_element, o_fold, o_alike, o_take, o_bill, o_values, o_keep, o_find, o_kept, o_recall, o_sheet, o_lose, o_lay, o_get, o_copy, o_write, o_count, o_digest_of (o_would_of h)⟩
