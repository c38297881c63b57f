theorem Mo_in_3s (p : Int32) : Mo_in p.toInt64 0 3 = some (b2i (inb p 4)) := by
  rw [Mo_in_s, Int32.toInt_toInt64, show (0 : Int64).toInt = 0 from rfl, show (3 : Int64).toInt = ((3 : Nat) : Int) from rfl, in_nI (by decide)]
theorem Mo_in_9s (p : Int32) : Mo_in p.toInt64 0 9 = some (b2i (inb p 10)) := by
  rw [Mo_in_s, Int32.toInt_toInt64, show (0 : Int64).toInt = 0 from rfl, show (9 : Int64).toInt = ((9 : Nat) : Int) from rfl, in_nI (by decide)]
theorem bill_ok {w : Nat → Bool} {I I2 : HI} {m : Nat} (hL : RL m (I 6 1) (I2 0 6) (fun k => I (8 + k)) (I2 5)) (hB : RB I (I2 5) (2 * m)) (p i : Int32) : ∃ r : Int32, Lm_bill I (nn w) 0 p i = some r ∧ Mo_bill I2 N_m 0 p i = some r := by
  obtain ⟨hm, hc, hc2, hrow, ha, hv⟩ := hL
  obtain ⟨hb, hbr⟩ := hB
  have c6 := cnt_6 (A := I2 5) hv (Nat.le_refl (2 * m)) true
  unfold Lm_bill Lm_bill_0 Mo_bill Mo_bill_0
  rw [show Mo_parts I2 N_m 0 1 = some (nI (cnt (fsb (I2 5) true) (2 * m))) from Mo_parts_s (q := true) hm hc2 ha, bn1_s, Mo_in_q p (by omega), bn1_s, Mo_in_3s, bn1_s, nv_0_4, hb]
  cases hb1 : inb p (cnt (fsb (I2 5) true) (2 * m)) with
  | false =>
    rw [if_pos b2i_f]
    refine ⟨-2, ?_, rfl⟩
    rcases inb_no (by omega) hb1 with h | h
    · rw [if_pos h]
    · by_cases h0 : p < 0
      · rw [if_pos h0]
      · rw [if_neg h0, if_pos h]
  | true =>
    rcases inb_cases p (n := cnt (fsb (I2 5) true) (2 * m)) (by omega) with hb' | ⟨k, hk, rfl⟩
    · rw [hb1] at hb'; exact Bool.noConfusion hb'
    rw [if_neg b2i_t, if_neg (nI_pos (by omega)), if_neg (nI_ge hk (by omega))]
    cases hb2 : inb i 4 with
    | false =>
      rw [if_pos b2i_f]
      refine ⟨-2, ?_, rfl⟩
      rcases inb_no (by decide) hb2 with h | h
      · rw [if_pos h]
      · by_cases h0 : i < 0
        · rw [if_pos h0]
        · rw [if_neg h0, if_neg (show ¬ i < (4 : Int32) from Int32.not_lt.mpr h)]
    | true =>
      rcases inb_cases i (n := 4) (by decide) with hb' | ⟨j, hj, rfl⟩
      · rw [hb2] at hb'; exact Bool.noConfusion hb'
      obtain ⟨x, g1, g2, g3⟩ := cnt_sur _ k hk
      subst g3
      rw [if_neg b2i_t, if_neg (nI_pos (by omega)), if_pos (show nI j < (4 : Int32) from nI_lt (b := 4) hj (by decide)), nv_0_4, Bi_item_s c6 hb hk hj, bn1_s, Mo_nthPart_s hm hc2 ha g1 g2, bn1_s, Mo_billBy_s hm hc2 g1 hj, bn1_s]
      obtain ⟨⟨m0, m1, m2⟩, m3⟩ := hbr x g1 g2
      refine ⟨_, rfl, congrArg some ?_⟩
      rcases (show j = 0 ∨ j = 1 ∨ j = 2 ∨ j = 3 by omega) with rfl | rfl | rfl | rfl
      · rw [m0]; rfl
      · rw [m1]; rfl
      · rw [m2]; rfl
      · rw [m3]; rfl
/-- rows k and i of the bill have the same value -/
def sv (I : HI) (i k : Nat) : Bool := decide (I (58 + k) 1 = I (58 + i) 1) && decide (I (58 + k) 2 = I (58 + i) 2)
theorem nof_stay {l : Nat → Bool} {k : Nat} (h : nof l k = false) : ∀ d, nof l (k + d) = false
  | 0 => h
  | d + 1 => by show (nof l (k + d) && !(l (k + d))) = false; rw [nof_stay h d]; rfl
theorem bdv_17 {w : Nat → Bool} {I : HI} {K : Int32 → Int32 → Option Int32} {c i : Nat} {s : Int32} (hc6 : c ≤ 6) (hc : I 56 1 = nI c) (hi : i < c) : ∀ m k n, m + k = i → m < n → Bi_differentValues_17 I (nn w) 56 K n s (nI i) (b2i (nof (sv I i) k)) (nI k) = Bi_differentValues_71 I (nn w) 56 K s (nI i) (b2i (nof (sv I i) i))
  | 0, k, n + 1, hk, _ => by
    have e : k = i := by omega
    subst e
    show Bi_differentValues_17b I (nn w) 56 K (Bi_differentValues_17 I (nn w) 56 K n) s (nI k) _ (nI k) = _
    unfold Bi_differentValues_17b
    rw [if_pos (Int32.le_refl _)]
  | m + 1, k, n + 1, hk, hn => by
    show Bi_differentValues_17b I (nn w) 56 K (Bi_differentValues_17 I (nn w) 56 K n) s (nI i) _ (nI k) = _
    unfold Bi_differentValues_17b Bi_differentValues_59 Bi_differentValues_64
    rw [if_neg (nI_ge (by omega) (by omega))]
    cases e : nof (sv I i) k
    · have := nof_stay e (i - k)
      rw [show k + (i - k) = i by omega] at this
      rw [if_pos b2i_f, this]
    · have i1 : ∀ q, q < c → Bi_item I (nn w) 56 (nI q) 1 = some (I (58 + q) 1) := fun q hq => Bi_item_s (j := 1) hc6 hc hq (by decide)
      have i2 : ∀ q, q < c → Bi_item I (nn w) 56 (nI q) 2 = some (I (58 + q) 2) := fun q hq => Bi_item_s (j := 2) hc6 hc hq (by decide)
      have nx : nof (sv I i) (k + 1) = !(sv I i k) := by show (nof (sv I i) k && !(sv I i k)) = _; rw [e, Bool.true_and]
      have ih := bdv_17 (w := w) (K := K) (s := s) hc6 hc hi m (k + 1) n (by omega) (by omega)
      rw [nx, show sv I i k = (decide (I (58 + k) 1 = I (58 + i) 1) && decide (I (58 + k) 2 = I (58 + i) 2)) from rfl] at ih
      rw [if_neg b2i_t, i1 k (by omega), bn1_s, i1 i hi, bn1_s, i2 k (by omega), bn1_s, i2 i hi, bn1_s, nI_1]
      by_cases e1 : I (58 + k) 1 = I (58 + i) 1
      · rw [if_pos e1]
        by_cases e2 : I (58 + k) 2 = I (58 + i) 2
        · rw [if_pos e2]
          rw [decide_eq_true e1, decide_eq_true e2] at ih
          exact ih
        · rw [if_neg e2]
          rw [decide_eq_true e1, decide_eq_false e2] at ih
          exact ih
      · rw [if_neg e1]
        rw [decide_eq_false e1] at ih
        exact ih
theorem Bi_differentValues_s {w : Nat → Bool} {I : HI} {c : Nat} (hc6 : c ≤ 6) (hc : I 56 1 = nI c) : Bi_differentValues I (nn w) 56 = some (nI (cnt (fun i => nof (sv I i) i) c)) := by
  unfold Bi_differentValues Bi_differentValues_0
  refine up_loop (fun n S y => Bi_differentValues_4 I (nn w) 56 n S y) (fun k => nI (cnt (fun i => nof (sv I i) i) k)) (some (nI (cnt (fun i => nof (sv I i) i) c))) c (fun n k hk => ?_) (fun n => ?_) 256 0 (by omega) (by omega)
  · show Bi_differentValues_4b I (nn w) 56 (Bi_differentValues_4 I (nn w) 56 n) _ (nI k) = Bi_differentValues_4 I (nn w) 56 n (nI (cnt (fun i => nof (sv I i) i) (k + 1))) (nI (k + 1))
    unfold Bi_differentValues_4b
    rw [hc, if_neg (nI_ge hk (by omega)), show Bi_differentValues_17 I (nn w) 56 (Bi_differentValues_4 I (nn w) 56 n) 256 (nI (cnt (fun i => nof (sv I i) i) k)) (nI k) 1 0 = _ from bdv_17 (K := Bi_differentValues_4 I (nn w) 56 n) hc6 hc hk k 0 256 (by omega) (by omega)]
    unfold Bi_differentValues_71 Bi_differentValues_81
    rw [show nI k + 1 = nI (k + 1) from nI_add k 1]
    cases e : nof (sv I k) k
    · rw [if_pos b2i_f, bd_e, cnt_f (p := fun i => nof (sv I i) i) e, Int32.add_zero]
    · rw [if_neg b2i_t, bd_e, cnt_t (p := fun i => nof (sv I i) i) e, show nI (cnt (fun i => nof (sv I i) i) k) + 1 = nI (cnt (fun i => nof (sv I i) i) k + 1) from nI_add _ 1]
  · show Bi_differentValues_4b I (nn w) 56 (Bi_differentValues_4 I (nn w) 56 n) _ (nI c) = _
    unfold Bi_differentValues_4b
    rw [hc, if_pos (Int32.le_refl _)]
theorem fs0_fs {A : Nat → Int32} {x : Nat} (h : fsb A false x = true) : fsb A true x = true := by
  obtain ⟨h1, h2⟩ := fs_iff.mp h
  refine fs_iff.mpr ⟨h1, fun y hy => ?_⟩
  have := h2 y hy
  cases e : lkb A true y x with
  | false => rfl
  | true =>
    obtain ⟨g1, g2, g3⟩ := lk_iff.mp e
    rw [lk_iff.mpr ⟨g1, g2, fun q => Bool.noConfusion q⟩] at this
    exact this
theorem sv_fs {I : HI} {A : Nat → Int32} {X x : Nat} (hB : RB I A X) (hx : x < X) (hf : fsb A true x = true) : nof (sv I (cnt (fsb A true) x)) (cnt (fsb A true) x) = fsb A false x := by
  rw [Bool.eq_iff_iff, nof_iff, fs_iff]
  obtain ⟨-, hr⟩ := hB
  have mx := (hr x hx hf).1
  constructor
  · intro h
    refine ⟨(fs_iff.mp hf).1, fun y hy => ?_⟩
    cases e : lkb A false y x with
    | false => rfl
    | true =>
      obtain ⟨g1, g2, -⟩ := lk_iff.mp e
      obtain ⟨z, z1, z2, z3⟩ := lk_rep (q := true) (y + 1) y (by omega) (fun q => (fs_iff.mp hf).1 (g1 ▸ q))
      obtain ⟨k1, k2, -⟩ := lk_iff.mp z3
      have mz := (hr z (by omega) z2).1
      have := h (cnt (fsb A true) z) (cnt_lt (by omega) z2)
      unfold sv at this
      rw [mz.2.1, mz.2.2, mx.2.1, mx.2.2, decide_eq_true (k1.trans g1), decide_eq_true (k2.trans g2)] at this
      exact this
  · rintro ⟨-, h⟩ k hk
    obtain ⟨z, z1, z2, z3⟩ := cnt_sur x k hk
    subst z3
    have mz := (hr z (by omega) z2).1
    cases e : sv I (cnt (fsb A true) x) (cnt (fsb A true) z) with
    | false => rfl
    | true =>
      unfold sv at e
      rw [mz.2.1, mz.2.2, mx.2.1, mx.2.2, Bool.and_eq_true] at e
      have := h z z1
      rw [lk_iff.mpr ⟨of_decide_eq_true e.1, of_decide_eq_true e.2, fun q => Bool.noConfusion q⟩] at this
      exact this
theorem sv_cnt {I : HI} {A : Nat → Int32} {Y : Nat} (hB : RB I A Y) : ∀ X, X ≤ Y → cnt (fun i => nof (sv I i) i) (cnt (fsb A true) X) = cnt (fsb A false) X
  | 0, _ => rfl
  | X + 1, hX => by
    have ih := sv_cnt hB X (by omega)
    cases e : fsb A true X with
    | true =>
      have s := sv_fs hB (show X < Y by omega) e
      rw [cnt_t e]
      cases e2 : fsb A false X with
      | true => rw [cnt_t (p := fun i => nof (sv I i) i) (s.trans e2), cnt_t e2, ih]
      | false => rw [cnt_f (p := fun i => nof (sv I i) i) (s.trans e2), cnt_f e2, ih]
    | false =>
      have e2 : fsb A false X = false := by
        cases q : fsb A false X with
        | false => rfl
        | true => rw [fs0_fs q] at e; exact Bool.noConfusion e
      rw [cnt_f e, cnt_f e2, ih]
theorem values_ok {w : Nat → Bool} {I I2 : HI} {m : Nat} (hL : RL m (I 6 1) (I2 0 6) (fun k => I (8 + k)) (I2 5)) (hB : RB I (I2 5) (2 * m)) : ∃ r : Int32, Lm_values I (nn w) 0 = some r ∧ Mo_values I2 N_m 0 = some r := by
  obtain ⟨hm, hc, hc2, hrow, ha, hv⟩ := hL
  unfold Lm_values Lm_values_0 Mo_values Mo_values_0
  rw [nv_0_4, Bi_differentValues_s (cnt_6 hv (Nat.le_refl (2 * m)) true) hB.1, bn1_s, show Mo_parts I2 N_m 0 0 = some (nI (cnt (fsb (I2 5) false) (2 * m))) from Mo_parts_s (q := false) hm hc2 ha, bn1_s, sv_cnt hB (2 * m) (Nat.le_refl _)]
  exact ⟨_, rfl, rfl⟩
theorem changed_s {m : Nat} {w : Nat → Bool} {I : HI} {J : HJ} {A : Nat → Int32} (hm : m ≤ 6) (hc : I 6 1 = nI m) (hrow : ∀ k, k < m → ∀ j, j < 5 → I (8 + k) j = A (5 * k + j)) (ha : ∀ k, k < m → aok A k) (hv : vc A m ≤ 6) : ∃ (I' : HI) (J' : HJ), Lm_ladderChanged 0 I J (nn w) = some (I', J', nn w) ∧ (m ≠ 0 → RR 7 (J' (ab w 15 + 1)) (J' (be w 15 + 1)) (FO A m)) ∧ RB I' A (2 * m) ∧ fB I I' ∧ fD J J' := by
  obtain ⟨J', h1, h2, h3⟩ := cfold_s (w := w) (J := J) la_6 hm hc hrow ha hv
  obtain ⟨I', g1, g2, g3⟩ := bcount_s (w := w) la_6 (by decide) hm hc hrow hv
  refine ⟨I', J', ?_, h2, g2, g3, h3⟩
  unfold Lm_ladderChanged Lm_ladderChanged_0
  rw [nv_0_2, nv_0_1, h1, bn2_s, nv_0_4, nv_0_1, g1, bn1_s]
/-- what arm, back and take leave as it was -/
def fL (I I' : HI) (J J' : HJ) (I2 I2' : HI) : Prop := (∀ a, a < 6 ∨ 13 < a → a ≠ 56 → a < 58 ∨ 63 < a → I' a = I a) ∧ fD J J' ∧ (∀ a, a ≠ 0 → a ≠ 5 → I2' a = I2 a) ∧ ∀ k, k ≠ 6 → I2' 0 k = I2 0 k
theorem fL_rf {I : HI} {J : HJ} {I2 : HI} : fL I I J J I2 I2 := ⟨fun _ _ _ _ => rfl, fun _ _ => rfl, fun _ _ _ => rfl, fun _ _ => rfl⟩
theorem back_ok {w : Nat → Bool} {I I2 : HI} {J : HJ} {m : Nat} (hL : RL m (I 6 1) (I2 0 6) (fun k => I (8 + k)) (I2 5)) (hF : m ≠ 0 → RR 7 (J (ab w 15 + 1)) (J (be w 15 + 1)) (FO (I2 5) m)) (hB : RB I (I2 5) (2 * m)) : ∃ (I' : HI) (J' : HJ) (I2' : HI) (r : Int32) (m' : Nat), Lm_back 0 I J (nn w) = some (I', J', nn w, r) ∧ Mo_back 0 I2 = some (I2', r) ∧ RL m' (I' 6 1) (I2' 0 6) (fun k => I' (8 + k)) (I2' 5) ∧ (m' ≠ 0 → RR 7 (J' (ab w 15 + 1)) (J' (be w 15 + 1)) (FO (I2' 5) m')) ∧ RB I' (I2' 5) (2 * m') ∧ fL I I' J J' I2 I2' := by
  obtain ⟨hm, hc, hc2, hrow, ha, hv⟩ := id hL
  unfold Lm_back Lm_back_0 Mo_back Mo_back_0
  rw [nv_0_1, hc, hc2]
  by_cases h0 : m = 0
  · subst h0
    rw [if_pos (by decide), if_pos (by decide)]
    exact ⟨I, J, I2, -3, 0, rfl, rfl, hL, hF, hB, fL_rf⟩
  · obtain ⟨q, rfl⟩ : ∃ q, m = q + 1 := ⟨m - 1, by omega⟩
    have e0 : ¬ nI (q + 1) = 0 := fun z => h0 ((nI_eq (b := 0) (by omega) (by decide)).mp z)
    have em : nI (q + 1) - 1 = nI q := by rw [← nI_1, Int32.add_sub_cancel]
    have hv' : vc (I2 5) q ≤ 6 := Nat.le_trans (vc_mono 1 q) hv
    obtain ⟨I', J', h1, h2, h3, h4, h5⟩ := changed_s (w := w) (I := up2 I 6 1 (nI q)) (J := J) (A := I2 5) (m := q) (by omega) (by rw [up2_at, va_up_at]) (fun k hk j hj => by rw [up2_of (by omega)]; exact hrow k (by omega) j hj) (fun k hk => ha k (by omega)) hv'
    have l1 : I' 6 1 = nI q := by rw [h4 6 (by decide) (by decide), up2_at, va_up_at]
    rw [if_neg e0, if_neg e0, nv_0_1, La_dropLast_s (by omega) hc, bn1_s, h1, bn3_s, nv_0_1, l1, bd_e, em]
    refine ⟨I', J', up2 I2 0 6 (nI q), nI q, q, rfl, by rw [up2_at, va_up_at], ⟨by omega, l1, by rw [up2_at, va_up_at], fun k hk j hj => ?_, ?_, ?_⟩, ?_, ?_, ?_⟩
    · show I' (8 + k) j = _
      rw [h4 (8 + k) (by omega) (by omega), up2_of (by omega), up2_of (by decide)]
      exact hrow k (by omega) j hj
    · rw [up2_of (by decide)]; exact fun k hk => ha k (by omega)
    · rw [up2_of (by decide)]; exact hv'
    · rw [up2_of (by decide)]; exact h2
    · rw [up2_of (by decide)]; exact h3
    · exact ⟨fun a g1 g2 g3 => by rw [h4 a g2 g3, up2_of (by omega)], h5, fun a g1 _ => up2_of g1, fun k hk => by rw [up2_at, va_up_of hk]⟩
theorem arow_v {p u v x y : Int32} {A : Nat → Int32} {m : Nat} {j : Nat} (hj : j < 5) : wrs (5 * m) 5 A (arow p u v x y) (5 * m + j) = arow p u v x y j := by
  rw [wrs_in (by omega), show 5 * m + j - 5 * m = j by omega]
theorem arow_lo {p u v x y : Int32} {A : Nat → Int32} {m j : Nat} (hj : j < 5 * m) : wrs (5 * m) 5 A (arow p u v x y) j = A j := wrs_out (by omega)
theorem v19 {a : Nat} (h : a < 10) : vok (nI a) (nI (v1 (nI a))) := by
  by_cases e : a = 0
  · subst e; exact Or.inl ⟨rfl, rfl⟩
  · have ne : ¬ nI a = 0 := fun q => e ((nI_eq (b := 0) (by omega) (by decide)).mp q)
    refine Or.inr ⟨by rw [nI_toInt (by omega)]; omega, ?_⟩
    unfold v1
    rw [if_neg ne, nI_toInt (by decide)]
    omega
theorem marm_ok {I : HI} {m a b : Nat} {p : Int32} (hm : m < 6) (ha' : a < 10) (hb : b < 10) (hc : I 0 6 = nI m) (ha : ∀ k, k < m → aok (I 5) k) (hs : vc (I 5) m + (v1 (nI a) + v1 (nI b)) ≤ 6) : Mo_arm_70 N_m 0 p (nI a) (nI b) I (nI (vc (I 5) m) + nI (v1 (nI a))) (nI (v1 (nI b))) = some (up2 (va_up I 5 (wrs (5 * m) 5 (I 5) (arow p (nI a) (nI (v1 (nI a))) (nI b) (nI (v1 (nI b)))))) 0 6 (nI (m + 1)), nI m) := by
  have ea : (if nI a ≤ 0 then (0 : Int32) else 1) = nI (v1 (nI a)) := (v1_le (v19 ha')).symm
  have eb : (if nI b ≤ 0 then (0 : Int32) else 1) = nI (v1 (nI b)) := (v1_le (v19 hb)).symm
  have c1 : (5 : Int32) * nI m + 1 = nI (5 * m + 1) := i5 m 1
  have c2 : (5 : Int32) * nI m + 2 = nI (5 * m + 2) := i5 m 2
  have c3 : (5 : Int32) * nI m + 3 = nI (5 * m + 3) := i5 m 3
  have c4 : (5 : Int32) * nI m + 4 = nI (5 * m + 4) := i5 m 4
  have o : (0 : Nat) ≠ 5 := by decide
  have w162 : ∀ (I0 : HI), I0 0 6 = nI m → ∀ z, Mo_arm_162 N_m 0 p (nI a) (nI b) I0 5 (nI (5 * m + 4)) z = some (up2 (up2 I0 5 (5 * m + 4) z) 0 6 (nI (m + 1)), nI m) := by
    intro I0 h0 z
    unfold Mo_arm_162
    rw [gd_of (tm5 (by omega)), bd_e, nI_clamp (by omega), bd_e, up2_of o, h0, nI_1, up2_at, va_up_at, show nI (m + 1) - 1 = nI m from by rw [← nI_1, Int32.add_sub_cancel]]
  have w126 : ∀ (I0 : HI), I0 0 6 = nI m → ∀ z, Mo_arm_126 N_m 0 p (nI a) (nI b) I0 5 (nI (5 * m + 2)) z = some (up2 (up2 (up2 (up2 I0 5 (5 * m + 2) z) 5 (5 * m + 3) (nI b)) 5 (5 * m + 4) (nI (v1 (nI b)))) 0 6 (nI (m + 1)), nI m) := by
    intro I0 h0 z
    unfold Mo_arm_126
    rw [gd_of (tm5 (by omega)), bd_e, nI_clamp (by omega), mv_5, up2_of o, h0, c3, gd_of (tm5 (by omega)), bd_e, nI_clamp (by omega), mv_5, up2_of o, up2_of o, h0, c4, w162 _ (by rw [up2_of o, up2_of o]; exact h0), w162 _ (by rw [up2_of o, up2_of o]; exact h0), ← eb]
    split <;> rfl
  unfold Mo_arm_70
  rw [nI_add, nI_add, if_pos (show nI (vc (I 5) m + v1 (nI a) + v1 (nI b)) ≤ (6 : Int32) from Int32.le_iff_toInt_le.mpr (by rw [nI_toInt (by omega)]; show _ ≤ (6 : Int); omega)), mv_5, hc, i5', gd_of (tm5 (by omega)), bd_e, nI_clamp (by omega), mv_5, up2_of o, hc, c1, gd_of (tm5 (by omega)), bd_e, nI_clamp (by omega), mv_5, up2_of o, up2_of o, hc, c2, w126 _ (by rw [up2_of o, up2_of o]; exact hc), w126 _ (by rw [up2_of o, up2_of o]; exact hc)]
  have fin : ∀ z, up2 (up2 (up2 (up2 (up2 I 5 (5 * m) p) 5 (5 * m + 1) (nI a)) 5 (5 * m + 2) z) 5 (5 * m + 3) (nI b)) 5 (5 * m + 4) (nI (v1 (nI b))) = va_up I 5 (wrs (5 * m) 5 (I 5) (arow p (nI a) z (nI b) (nI (v1 (nI b))))) := by
    intro z
    rw [up2_eq (f := I), up2_va, up2_va, up2_va, up2_va]
    exact congrArg (va_up I 5) (five (f := I 5) (g := arow p (nI a) z (nI b) (nI (v1 (nI b)))) (o := 5 * m))
  rw [fin, fin, ← ea]
  split <;> rfl
theorem marm_no {I : HI} {m a b : Nat} {p : Int32} (ha' : a < 10) (hb : b < 10) (hv : vc (I 5) m ≤ 6) (hs : ¬ vc (I 5) m + (v1 (nI a) + v1 (nI b)) ≤ 6) : Mo_arm_70 N_m 0 p (nI a) (nI b) I (nI (vc (I 5) m) + nI (v1 (nI a))) (nI (v1 (nI b))) = some (I, -4) := by
  have h1 := v1_1 (nI a)
  have h2 := v1_1 (nI b)
  unfold Mo_arm_70
  rw [nI_add, nI_add, if_neg (show ¬ nI (vc (I 5) m + v1 (nI a) + v1 (nI b)) ≤ (6 : Int32) from fun q => by rw [Int32.le_iff_toInt_le, nI_toInt (by omega)] at q; have q' : ((vc (I 5) m + v1 (nI a) + v1 (nI b) : Nat) : Int) ≤ 6 := q; omega)]
theorem arm_ok {w : Nat → Bool} {I I2 : HI} {J : HJ} {m : Nat} (hL : RL m (I 6 1) (I2 0 6) (fun k => I (8 + k)) (I2 5)) (hF : m ≠ 0 → RR 7 (J (ab w 15 + 1)) (J (be w 15 + 1)) (FO (I2 5) m)) (hB : RB I (I2 5) (2 * m)) (p u x : Int32) : ∃ (I' : HI) (J' : HJ) (I2' : HI) (r : Int32) (m' : Nat), Lm_arm 0 p u x I J (nn w) = some (I', J', nn w, r) ∧ Mo_arm N_m 0 p u x I2 = some (I2', r) ∧ RL m' (I' 6 1) (I2' 0 6) (fun k => I' (8 + k)) (I2' 5) ∧ (m' ≠ 0 → RR 7 (J' (ab w 15 + 1)) (J' (be w 15 + 1)) (FO (I2' 5) m')) ∧ RB I' (I2' 5) (2 * m') ∧ fL I I' J J' I2 I2' := by
  obtain ⟨hm, hc, hc2, hrow, ha, hv⟩ := id hL
  have ref : ∀ r : Int32, Lm_arm 0 p u x I J (nn w) = some (I, J, nn w, r) → Mo_arm N_m 0 p u x I2 = some (I2, r) → ∃ (I' : HI) (J' : HJ) (I2' : HI) (r : Int32) (m' : Nat), Lm_arm 0 p u x I J (nn w) = some (I', J', nn w, r) ∧ Mo_arm N_m 0 p u x I2 = some (I2', r) ∧ RL m' (I' 6 1) (I2' 0 6) (fun k => I' (8 + k)) (I2' 5) ∧ (m' ≠ 0 → RR 7 (J' (ab w 15 + 1)) (J' (be w 15 + 1)) (FO (I2' 5) m')) ∧ RB I' (I2' 5) (2 * m') ∧ fL I I' J J' I2 I2' := fun r h1 h2 => ⟨I, J, I2, r, m, h1, h2, hL, hF, hB, fL_rf⟩
  by_cases hp : p = 0 ∨ p = 1
  · rcases inb_cases u (n := 10) (by decide) with hu | ⟨a, ha10, rfl⟩
    · refine ref (-2) ?_ ?_
      · unfold Lm_arm Lm_arm_0
        rw [Lm_isPlace_s, bn1_s, decide_eq_true hp, if_neg b2i_t]
        rcases inb_no (by decide) hu with h | h
        · rw [if_pos h]
        · by_cases h0 : u < 0
          · rw [if_pos h0]
          · rw [if_neg h0, if_pos (show (9 : Int32) < u from Int32.lt_iff_toInt_lt.mpr (by have h' := Int32.le_iff_toInt_le.mp h; rw [nI_toInt (by decide)] at h'; show (9 : Int) < _; omega))]
      · unfold Mo_arm Mo_arm_0
        rw [Mo_isTwo_s, bn1_s, decide_eq_true hp, if_neg b2i_t, Mo_in_9s, bn1_s, hu, if_pos b2i_f]
    · have u9 : ¬ (9 : Int32) < nI a := fun h => by rw [Int32.lt_iff_toInt_lt, nI_toInt (by omega)] at h; have h' : (9 : Int) < (a : Int) := h; omega
      rcases inb_cases x (n := 10) (by decide) with hx | ⟨b, hb10, rfl⟩
      · refine ref (-2) ?_ ?_
        · unfold Lm_arm Lm_arm_0
          rw [Lm_isPlace_s, bn1_s, decide_eq_true hp, if_neg b2i_t, if_neg (nI_pos (by omega)), if_neg u9]
          rcases inb_no (by decide) hx with h | h
          · rw [if_pos h]
          · by_cases h0 : x < 0
            · rw [if_pos h0]
            · rw [if_neg h0, if_neg (fun h2 => by have h' := Int32.le_iff_toInt_le.mp h; rw [nI_toInt (by decide)] at h'; have h2' : x.toInt ≤ (9 : Int) := Int32.le_iff_toInt_le.mp h2; omega)]
        · unfold Mo_arm Mo_arm_0
          rw [Mo_isTwo_s, bn1_s, decide_eq_true hp, if_neg b2i_t, Mo_in_9s, bn1_s, inb_nI ha10 (by decide), if_neg b2i_t, Mo_in_9s, bn1_s, hx, if_pos b2i_f]
      · have x9 : nI b ≤ (9 : Int32) := Int32.le_iff_toInt_le.mpr (by rw [nI_toInt (by omega)]; show (b : Int) ≤ 9; omega)
        have z0 : ∀ q, q < 10 → (nI q = 0 ↔ q = 0) := fun q hq => nI_eq (b := 0) (by omega) (by decide)
        by_cases hz : a = 0 ∧ b = 0
        · obtain ⟨rfl, rfl⟩ := hz
          refine ref (-2) ?_ ?_
          · unfold Lm_arm Lm_arm_0
            rw [Lm_isPlace_s, bn1_s, decide_eq_true hp, if_neg b2i_t, if_neg (nI_pos (by omega)), if_neg u9, if_neg (nI_pos (by omega)), if_pos x9, if_pos (by decide), if_pos (by decide)]
          · unfold Mo_arm Mo_arm_0
            rw [Mo_isTwo_s, bn1_s, decide_eq_true hp, if_neg b2i_t, Mo_in_9s, bn1_s, inb_nI ha10 (by decide), if_neg b2i_t, bn1_s, if_neg b2i_t, if_pos (by decide)]
        · have ca : Lm_arm 0 p (nI a) (nI b) I J (nn w) = Lm_arm_61 0 p (nI a) (nI b) I J (nn w) (nI (v1 (nI a))) (nI (v1 (nI b))) := by
            unfold Lm_arm Lm_arm_0
            rw [Lm_isPlace_s, bn1_s, decide_eq_true hp, if_neg b2i_t, if_neg (nI_pos (by omega)), if_neg u9, if_neg (nI_pos (by omega)), if_pos x9]
            have e41 : Lm_arm_41 0 p (nI a) (nI b) I J (nn w) = Lm_arm_61 0 p (nI a) (nI b) I J (nn w) (nI (v1 (nI a))) (nI (v1 (nI b))) := by
              unfold Lm_arm_41 Lm_arm_50
              rw [v1_c, v1_c]
              by_cases ea : nI a = 0
              · rw [if_pos ea, if_pos ea]
                by_cases eb : nI b = 0
                · rw [if_pos eb, if_pos eb]
                · rw [if_neg eb, if_neg eb]
              · rw [if_neg ea, if_neg ea]
                by_cases eb : nI b = 0
                · rw [if_pos eb, if_pos eb]
                · rw [if_neg eb, if_neg eb]
            rw [e41]
            by_cases ea : nI a = 0
            · rw [if_pos ea, if_neg (fun q => hz ⟨(z0 a ha10).mp ea, (z0 b hb10).mp q⟩)]
            · rw [if_neg ea]
          have cm : Mo_arm N_m 0 p (nI a) (nI b) I2 = Mo_arm_70 N_m 0 p (nI a) (nI b) I2 (nI (vc (I2 5) m) + nI (v1 (nI a))) (nI (v1 (nI b))) := by
            unfold Mo_arm Mo_arm_0 Mo_arm_60
            rw [Mo_isTwo_s, bn1_s, decide_eq_true hp, if_neg b2i_t, Mo_in_9s, bn1_s, inb_nI ha10 (by decide), if_neg b2i_t, Mo_in_9s, bn1_s, inb_nI hb10 (by decide), if_neg b2i_t, nI_add, if_neg (fun q => by have := (nI_eq (b := 0) (by omega) (by decide)).mp q; omega), mv_5, hc2, Mo_valuesIn_s (by show 5 * m ≤ 30; omega) (by decide) (by omega) ha, bn1_s, v1_le (v19 ha10), v1_le (v19 hb10)]
            split <;> split <;> rfl
          rw [ca, cm]
          unfold Lm_arm_61
          rw [nv_0_1, La_add_s la_6 hc hrow ha hv]
          by_cases hs : vc (I2 5) m + (v1 (nI a) + v1 (nI b)) ≤ 6
          · have h1v : 1 ≤ v1 (nI a) + v1 (nI b) := by
              unfold v1
              by_cases ea : nI a = 0
              · rw [if_neg (show ¬ nI b = 0 from fun q => hz ⟨(z0 a ha10).mp ea, (z0 b hb10).mp q⟩)]; omega
              · rw [if_neg ea]; omega
            have h6 : m < 6 := by have := vc_ge m ha; omega
            rw [if_pos ⟨hs, h6⟩, bn2_s, if_neg (by decide), marm_ok h6 ha10 hb10 hc2 ha hs]
            have nv : ∀ q, q < m + 1 → aok (wrs (5 * m) 5 (I2 5) (arow p (nI a) (nI (v1 (nI a))) (nI b) (nI (v1 (nI b))))) q := by
              intro q hq
              by_cases eq : q = m
              · subst eq
                have f0 := arow_v (p := p) (u := nI a) (v := nI (v1 (nI a))) (x := nI b) (y := nI (v1 (nI b))) (A := I2 5) (m := q) (j := 0) (by decide)
                have f1 := arow_v (p := p) (u := nI a) (v := nI (v1 (nI a))) (x := nI b) (y := nI (v1 (nI b))) (A := I2 5) (m := q) (j := 1) (by decide)
                have f2 := arow_v (p := p) (u := nI a) (v := nI (v1 (nI a))) (x := nI b) (y := nI (v1 (nI b))) (A := I2 5) (m := q) (j := 2) (by decide)
                have f3 := arow_v (p := p) (u := nI a) (v := nI (v1 (nI a))) (x := nI b) (y := nI (v1 (nI b))) (A := I2 5) (m := q) (j := 3) (by decide)
                have f4 := arow_v (p := p) (u := nI a) (v := nI (v1 (nI a))) (x := nI b) (y := nI (v1 (nI b))) (A := I2 5) (m := q) (j := 4) (by decide)
                rw [Nat.add_zero] at f0
                unfold aok
                rw [f0, f1, f2, f3, f4]
                exact ⟨hp, v19 ha10, v19 hb10, fun z => hz ⟨(z0 a ha10).mp z.1, (z0 b hb10).mp z.2⟩⟩
              · exact aok_congr (fun j hj => (arow_lo (by omega)).symm) (ha q (by omega))
            have nvc : vc (wrs (5 * m) 5 (I2 5) (arow p (nI a) (nI (v1 (nI a))) (nI b) (nI (v1 (nI b))))) (m + 1) ≤ 6 := by
              show vc _ m + (v1 (wrs (5 * m) 5 (I2 5) (arow p (nI a) (nI (v1 (nI a))) (nI b) (nI (v1 (nI b)))) (5 * m + 1)) + v1 (wrs (5 * m) 5 (I2 5) (arow p (nI a) (nI (v1 (nI a))) (nI b) (nI (v1 (nI b)))) (5 * m + 3))) ≤ 6
              rw [vc_congr (B := I2 5) m (fun j hj => arow_lo hj), arow_v (j := 1) (by decide), arow_v (j := 3) (by decide)]
              exact hs
            have nrow : ∀ k, k < m + 1 → ∀ j, j < 5 → up2 (va_up I (8 + m) (wrs 0 5 (I (8 + m)) (arow p (nI a) (nI (v1 (nI a))) (nI b) (nI (v1 (nI b)))))) 6 1 (nI (m + 1)) (8 + k) j = wrs (5 * m) 5 (I2 5) (arow p (nI a) (nI (v1 (nI a))) (nI b) (nI (v1 (nI b)))) (5 * k + j) := by
              intro k hk j hj
              rw [up2_of (by omega)]
              by_cases ek : k = m
              · subst ek
                rw [va_up_at, wrs_in (by omega), arow_v hj]; rfl
              · rw [va_up_of (by omega), arow_lo (by omega)]
                exact hrow k (by omega) j hj
            obtain ⟨I', J', h1, h2, h3, h4, h5⟩ := changed_s (w := w) (I := up2 (va_up I (8 + m) (wrs 0 5 (I (8 + m)) (arow p (nI a) (nI (v1 (nI a))) (nI b) (nI (v1 (nI b)))))) 6 1 (nI (m + 1))) (J := J) (m := m + 1) (by omega) (by rw [up2_at, va_up_at]) nrow nv nvc
            have l1 : I' 6 1 = nI (m + 1) := by rw [h4 6 (by decide) (by decide), up2_at, va_up_at]
            have e5 : up2 (va_up I2 5 (wrs (5 * m) 5 (I2 5) (arow p (nI a) (nI (v1 (nI a))) (nI b) (nI (v1 (nI b)))))) 0 6 (nI (m + 1)) 5 = wrs (5 * m) 5 (I2 5) (arow p (nI a) (nI (v1 (nI a))) (nI b) (nI (v1 (nI b)))) := by rw [up2_of (by decide), va_up_at]
            rw [h1, bn3_s, nv_0_1, l1, show nI (m + 1) - 1 = nI m from by rw [← nI_1, Int32.add_sub_cancel]]
            refine ⟨I', J', _, nI m, m + 1, rfl, rfl, ⟨by omega, l1, by rw [up2_at, va_up_at], fun k hk j hj => ?_, ?_, ?_⟩, ?_, ?_, ?_⟩
            · show I' (8 + k) j = _
              rw [h4 (8 + k) (by omega) (by omega), e5]
              exact nrow k hk j hj
            · rw [e5]; exact nv
            · rw [e5]; exact nvc
            · rw [e5]; exact h2
            · rw [e5]; exact h3
            · exact ⟨fun q g1 g2 g3 => by rw [h4 q g2 g3, up2_of (by omega), va_up_of (by omega)], h5, fun q g1 g2 => by rw [up2_of g1, va_up_of g2], fun k hk => by rw [up2_at, va_up_of hk, va_up_of (by decide)]⟩
          · rw [if_neg (fun q => hs q.1), bn2_s, if_pos rfl, marm_no ha10 hb10 hv hs]
            exact ⟨I, J, I2, -4, m, rfl, rfl, hL, hF, hB, fL_rf⟩
  · refine ref (-2) ?_ ?_
    · unfold Lm_arm Lm_arm_0
      rw [Lm_isPlace_s, bn1_s, decide_eq_false hp, if_pos b2i_f]
    · unfold Mo_arm Mo_arm_0
      rw [Mo_isTwo_s, bn1_s, decide_eq_false hp, if_pos b2i_f]
