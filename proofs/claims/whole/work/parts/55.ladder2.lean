theorem d5 : ∀ t, t < 30 → nI t / 5 = nI (t / 5) ∧ nI t - nI t / 5 * 5 = nI (t % 5) := by decide +kernel
theorem RL_row {m : Nat} {c c2 : Int32} {row : Nat → Nat → Int32} {A : Nat → Int32} (h : RL m c c2 row A) {t : Nat} (ht : t < 5 * m) : row (t / 5) (t % 5) = A t := by
  rw [h.2.2.2.1 (t / 5) (by omega) (t % 5) (by omega)]
  exact congrArg A (by omega)
theorem cwrite_l {w : Nat → Bool} {I : HI} {J : HJ} {A : Nat → Int32} {s m l : Nat} (hs : s < 3) (hz : -1 ≤ (I 88 s).toInt ∧ (I 88 s).toInt ≤ 40) (hm : m ≤ 6) (hc : I 6 1 = nI m) (hr : ∀ t, t < 5 * m → I (8 + t / 5) (t % 5) = A t) (hl : l ≤ 5 * m) (hl2 : (l : Int) ≤ (I 88 s).toInt) : Lm_write_36 (nn w) 0 (nI s) 256 I J (nI l) 0 = some (I, va_up J (85 + s) (wrk l (J (85 + s)) (fun i => (A i).toInt64)), nI l) := by
  have key := up_loop (fun n (S : HI × HJ) y => Lm_write_36 (nn w) 0 (nI s) n S.1 S.2 (nI l) y) (fun k => (I, va_up J (85 + s) (wrk k (J (85 + s)) (fun i => (A i).toInt64)))) (some (I, va_up J (85 + s) (wrk l (J (85 + s)) (fun i => (A i).toInt64)), nI l)) l (fun n k hk => ?_) (fun n => ?_) 256 0 (by omega) (by omega)
  · rw [wrk_0, va_up_id] at key
    exact key
  · show Lm_write_36b (nn w) 0 (nI s) (Lm_write_36 (nn w) 0 (nI s) n) _ _ (nI l) (nI k) = _
    unfold Lm_write_36b
    dsimp only
    have hd := d5 k (by omega)
    rw [if_neg (nI_ge hk (by omega)), nv_0_6, nv_0_1, hd.2, hd.1, La_item_s la_6 hm hc (by omega) (by omega), bn1_s, Sh_put_s hs hz (by omega) (by omega), bn1_s, hr k (by omega), up2_va, nI_1, wrk_s (g := fun i => (A i).toInt64)]
  · show Lm_write_36b (nn w) 0 (nI s) (Lm_write_36 (nn w) 0 (nI s) n) _ _ (nI l) (nI l) = _
    unfold Lm_write_36b
    rw [if_pos (Int32.le_refl _)]
theorem mwrite_l {I : HI} {J : HJ} {s l : Nat} (hs : s < 3) (hl : l ≤ 30) : Mo_write_44 N_m 0 (nI s) 256 I J (nI l) 0 = some (I, va_up J 2 (wrs (40 * s) l (J 2) (fun i => (I 5 i).toInt64)), nI l) := by
  have key := up_loop (fun n (S : HI × HJ) y => Mo_write_44 N_m 0 (nI s) n S.1 S.2 (nI l) y) (fun k => (I, va_up J 2 (wrs (40 * s) k (J 2) (fun i => (I 5 i).toInt64)))) (some (I, va_up J 2 (wrs (40 * s) l (J 2) (fun i => (I 5 i).toInt64)), nI l)) l (fun n k hk => ?_) (fun n => ?_) 256 0 (by omega) (by omega)
  · rw [wrs_0, va_up_id] at key
    exact key
  · show Mo_write_44b N_m 0 (nI s) (Mo_write_44 N_m 0 (nI s) n) _ _ (nI l) (nI k) = _
    unfold Mo_write_44b
    dsimp only
    rw [if_neg (nI_ge hk (by omega)), mv_2, mv_5, gd_of (tm5 (by omega)), i40, gd_of (tm2 (by omega)), bd_e, nI_clamp (by omega), nI_clamp (by omega), up2_va, nI_1, wrs_s (g := fun i => (I 5 i).toInt64)]
  · show Mo_write_44b N_m 0 (nI s) (Mo_write_44 N_m 0 (nI s) n) _ _ (nI l) (nI l) = _
    unfold Mo_write_44b
    rw [if_pos (Int32.le_refl _)]
theorem write_ok {w : Nat → Bool} {I I2 : HI} {J J2 : HJ} {m : Nat} (hL : RL m (I 6 1) (I2 0 6) (fun k => I (8 + k)) (I2 5)) (hS : RS (I 88) (I2 1) (fun s => J (85 + s)) (J2 2)) (hf : I 0 8 = I2 0 0) (p : Int32) : ∃ (I' : HI) (J' : HJ) (I2' : HI) (J2' : HJ) (r : Int32), Lm_write (nn w) 0 p I J = some (I', J', r) ∧ Mo_write N_m 0 p I2 J2 = some (I2', J2', r) ∧ RS (I' 88) (I2' 1) (fun s => J' (85 + s)) (J2' 2) ∧ fS I I' J J' I2 I2' J2 J2' := by
  unfold Lm_write Lm_write_0 Mo_write Mo_write_0
  rw [Mo_isSheet_s, bn1_s]
  rcases inb_cases p (n := 3) (by decide) with hb | ⟨s, hs, rfl⟩
  · rw [hb, if_pos b2i_f, sr_bad hb, bn2_s, if_neg (by decide)]
    exact ⟨I, J, I2, J2, _, rfl, rfl, hS, fS_rf hf⟩
  · obtain ⟨h1, h2, h3, h4⟩ := hS s hs
    rw [inb_nI hs (by decide), if_neg b2i_t, mv_1, gd_of (tm1 hs), nI_clamp (by omega)]
    by_cases e : I 88 s = -1
    · rw [sr_lost hs e, bn2_s, if_neg (by decide), if_pos (h1 ▸ e)]
      exact ⟨_, J, _, J2, _, rfl, rfl, hS, fS_fd 1⟩
    · have e2 : ¬ I2 1 s = -1 := fun q => e (h1.trans q)
      have hge : 0 ≤ (I 88 s).toInt := by
        by_cases g : (I 88 s).toInt = -1
        · exact absurd (Int32.toInt_inj.mp (g.trans rfl)) e
        · omega
      obtain ⟨z, hz⟩ : ∃ z : Nat, I 88 s = nI z ∧ z ≤ 40 := ⟨(I 88 s).toInt.toNat, by apply Int32.toInt_inj.mp; rw [nI_toInt (by omega)]; omega, by omega⟩
      have hzi : (I 88 s).toInt = z := by rw [hz.1, nI_toInt (by omega)]
      rw [sr_ok hs e, bn2_s, if_pos rfl, if_neg e2, nv_0_6, Sh_size_s hs, bn1_s, nv_0_1, bd_e, mv_1, gd_of (tm1 hs), hL.2.1, hL.2.2.1, ← h1, hz.1]
      have e5 : nI m * 5 = nI (5 * m) := by rw [Int32.mul_comm]; exact i5' m
      rw [e5, i5']
      obtain ⟨l, hl, ec, em⟩ : ∃ l : Nat, (l ≤ 5 * m ∧ l ≤ z) ∧ (if nI (5 * m) < nI z then nI (5 * m) else nI z) = nI l ∧ Mo_lesser (nI z) (nI (5 * m)) = some (nI l) := by
        unfold Mo_lesser Mo_lesser_0
        have hm := hL.1
        by_cases g : 5 * m < z
        · refine ⟨5 * m, ⟨Nat.le_refl _, by omega⟩, if_pos (nI_lt g (by omega)), if_pos (Int32.le_iff_toInt_le.mpr ?_)⟩
          rw [nI_toInt (by omega), nI_toInt (by omega)]; omega
        · refine ⟨z, ⟨by omega, Nat.le_refl _⟩, if_neg (fun q => ?_), ?_⟩
          · rw [Int32.lt_iff_toInt_lt, nI_toInt (by omega), nI_toInt (by omega)] at q; omega
          · by_cases g2 : 5 * m = z
            · rw [g2, if_pos (Int32.le_refl _)]
            · rw [if_neg (nI_ge (by omega) (by omega))]
      have hm := hL.1
      rw [ec, em, bn1_s, cwrite_l (A := I2 5) hs ⟨h2, h3⟩ hL.1 hL.2.1 (fun t ht => RL_row hL ht) hl.1 (by omega), mwrite_l hs (by omega)]
      refine ⟨I, _, I2, _, _, rfl, rfl, ?_, ?_⟩
      · intro t ht
        obtain ⟨g1, g2, g3, g4⟩ := hS t ht
        refine ⟨g1, g2, g3, fun i hi => ?_⟩
        have hi' : i < 40 := by omega
        show va_up J (85 + s) _ (85 + t) i = va_up J2 2 _ 2 (40 * t + i)
        rw [va_up_at]
        by_cases est : t = s
        · subst est
          rw [va_up_at]
          by_cases hil : i < l
          · rw [wrk_lt hil, wrs_in (by omega), show 40 * t + i - 40 * t = i by omega]
          · rw [wrk_ge (by omega), wrs_out (by omega)]
            exact g4 i hi
        · rw [va_up_of (by omega), wrs_out (by omega)]
          exact g4 i hi
      · refine ⟨fun _ _ _ => rfl, fun a h5 h6 h7 => va_up_of (by omega), fun _ _ _ => rfl, fun _ _ => rfl, fun a g _ => va_up_of g, hf⟩
theorem La_dropLast_s {L : Nat} {I : HI} {m : Nat} (hm : m < 2 ^ 31 - 1) (hc : I L 1 = nI (m + 1)) : La_dropLast L I = some (up2 I L 1 (nI m)) := by
  unfold La_dropLast La_dropLast_0
  rw [hc, if_neg (show ¬ nI (m + 1) ≤ 0 from nI_ge (a := 0) (b := m + 1) (by omega) (by omega) |> fun h => by rw [show (0 : Int32) = nI 0 from rfl]; intro q; rw [Int32.le_iff_toInt_le, nI_toInt (by omega), nI_toInt (by omega)] at q; omega), bd_e, show nI (m + 1) - 1 = nI m from by rw [← nI_1, Int32.add_sub_cancel]]
/-- five numbers of an arm -/
def arow (p u v x y : Int32) : Nat → Int32
  | 0 => p
  | 1 => u
  | 2 => v
  | 3 => x
  | _ => y
theorem five {f g : Nat → Int32} {o : Nat} : va_up (va_up (va_up (va_up (va_up f o (g 0)) (o + 1) (g 1)) (o + 2) (g 2)) (o + 3) (g 3)) (o + 4) (g 4) = wrs o 5 f g := by
  rw [← wrs_s, ← wrs_s, ← wrs_s, ← wrs_s, ← wrs_s, wrs_0]
  rfl
theorem La_add_s {L : Nat} {w : Nat → Bool} {I : HI} {A : Nat → Int32} {m : Nat} {p u v x y : Int32} (h : isLa L) (hc : I L 1 = nI m) (hr : ∀ k, k < m → ∀ j, j < 5 → I (L + 2 + k) j = A (5 * k + j)) (ha : ∀ k, k < m → aok A k) (hv : vc A m ≤ 6) : La_add (nn w) L p u v x y I = if vc A m + (v1 u + v1 x) ≤ 6 ∧ m < 6 then some (up2 (va_up I (L + 2 + m) (wrs 0 5 (I (L + 2 + m)) (arow p u v x y))) L 1 (nI (m + 1)), 1) else some (I, 0) := by
  have hm : m ≤ 6 := Nat.le_trans (vc_ge m ha) hv
  have all : ∀ a b, a ≤ 1 → b ≤ 1 → La_add_19 (nn w) L p u v x y I (nI a) (nI b) = if vc A m + (a + b) ≤ 6 ∧ m < 6 then some (up2 (va_up I (L + 2 + m) (wrs 0 5 (I (L + 2 + m)) (arow p u v x y))) L 1 (nI (m + 1)), 1) else some (I, 0) := by
    intro a b ha1 hb1
    unfold La_add_19
    rw [bd_e, hc, nI_add, La_valueCount_s h hm hc hr, bn1_s, nI_add]
    by_cases h6 : m < 6
    · rw [if_neg (n6 h6)]
      by_cases hs : vc A m + (a + b) ≤ 6
      · rw [if_pos (show nI (vc A m + (a + b)) ≤ (6 : Int32) from Int32.le_iff_toInt_le.mpr (by rw [nI_toInt (by omega)]; show _ ≤ (6 : Int); omega)), if_pos ⟨hs, h6⟩, la_0 h, gd_of (la_i h h6), nI_clamp (by omega), la_1 h h6, gd_of (la_c0 h h6), bd_e, gd_of (la_c1 h h6), bd_e, gd_of (la_c2 h h6), bd_e, gd_of (la_c3 h h6), bd_e, gd_of (la_c4 h h6), bd_e, bd_e]
        show some (up2 (up2 (up2 (up2 (up2 (up2 I (L + 2 + m) 0 p) (L + 2 + m) 1 u) (L + 2 + m) 2 v) (L + 2 + m) 3 x) (L + 2 + m) 4 y) L 1 _, (1 : Int32)) = _
        rw [up2_eq (f := I), up2_va, up2_va, up2_va, up2_va, up2_of (show L ≠ L + 2 + m by omega), up2_of (show L ≠ L + 2 + m by omega), up2_of (show L ≠ L + 2 + m by omega), up2_of (show L ≠ L + 2 + m by omega), up2_of (show L ≠ L + 2 + m by omega), hc, nI_1]
        exact congrArg (fun z => some (up2 (va_up I (L + 2 + m) z) L 1 (nI (m + 1)), (1 : Int32))) (five (f := I (L + 2 + m)) (g := arow p u v x y) (o := 0))
      · rw [if_neg (show ¬ nI (vc A m + (a + b)) ≤ (6 : Int32) from fun q => by rw [Int32.le_iff_toInt_le, nI_toInt (by omega)] at q; have q' : ((vc A m + (a + b) : Nat) : Int) ≤ 6 := q; omega), if_neg (fun q => hs q.1)]
    · rw [if_pos (show (6 : Int32) ≤ nI m from by rw [show m = 6 by omega]; exact Int32.le_refl _), if_neg (fun q => h6 q.2)]
  unfold La_add La_add_0 La_add_9 v1
  split
  · split
    · exact all 0 0 (by decide) (by decide)
    · exact all 0 1 (by decide) (by decide)
  · split
    · exact all 1 0 (by decide) (by decide)
    · exact all 1 1 (by decide) (by decide)
