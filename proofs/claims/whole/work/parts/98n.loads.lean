/-- what both sides hold in X -/
def LD (g h : Nat → Int64) : Prop := (∀ i, i < 4 → lb (g i) 9 ∧ lb (h i) 9) ∧ (∀ i, 4 ≤ i → i < 7 → g i = 0 ∧ h i = 0) ∧ (∃ i, i < 4 ∧ ¬ g i = 0) ∧ (∃ i, i < 4 ∧ ¬ h i = 0) ∧ (¬ h 3 = 0 → g 0 = 0) ∧ ¬ (g 0 = 0 ∧ h 0 = 0)
theorem loads_core {x o : Nat} {w : Nat → Bool} {I : HI} {J J2 : HJ} {p1 s0 : Int32} {G H : Nat → Int64} (hx : x < 2) (ho : o < 2) (hG : ∀ j, j < 14 → pat (J (ab w 39 + 1)) (s0 + 2 * nI j) = G j) (hH : ∀ j, j < 14 → pat (J (be w 39 + 1)) (s0 + 1 + 2 * nI j) = H j) (zG : ∀ j, 4 ≤ j → G j = 0) (zH : ∀ j, 4 ≤ j → H j = 0) (nG : ∃ j, ¬ G j = 0) (nH : ∃ j, ¬ H j = 0) (bG : ∀ j, lb (G j) 9) (bH : ∀ j, lb (H j) 9) (h3 : ¬ H 3 = 0 → G 0 = 0) (sG : ∀ i, i < 7 → sqr o (fun k => (I 4 (7 * x + k)).toInt64) 7 i = G i) (sH : ∀ i, i < 7 → sqr 0 (fun k => (I 4 (7 * (1 - x) + k)).toInt64) 7 i = H i) (c1 : Un_loadInX (nn w) 30 J = Un_loadInX_19 (nn w) 30 J s0) (c2 : Mo_byRoots_14 N_m 0 p1 I J2 (nI x) = Mo_byRoots_29 N_m 0 p1 I J2 (nI x) (nI o)) : ∃ (J' K : HJ), Un_loadInX (nn w) 30 J = some J' ∧ Mo_byRoots_14 N_m 0 p1 I J2 (nI x) = Mo_byRoots_91 N_m 0 p1 I K ∧ (∀ i, i < 7 → K 9 i = J' (ab w 44 + 1) i ∧ K 10 i = J' (be w 44 + 1) i) ∧ LD (J' (ab w 44 + 1)) (J' (be w 44 + 1)) ∧ (∀ r, r ≠ 46 → r ≠ 48 → J' r = J r) ∧ ∀ q, q ≠ 9 → q ≠ 10 → K q = J2 q := by
  obtain ⟨J', v, a1, a2, a3, a4, a5, a6⟩ := cload hG hH zG zH nG nH
  obtain ⟨K1, b1, b2, b3⟩ := squares_s (I := I) (J := J2) (b := 9) hx ho rfl
  obtain ⟨K2, d1, d2, d3⟩ := squares_s (I := I) (J := K1) (p := 1 - x) (o := 0) (b := 10) (by omega) (by decide) rfl
  obtain ⟨K, u, e1, e2, e3, e4, e5, e6⟩ := mload (I := I) (p1 := p1) zG zH nG 4 0 256 K2 (by decide) (by decide) (fun i hi => by rw [Nat.zero_add, d3 9 (by decide), b2 i hi, d2 i hi, sG i hi, sH i hi]; exact ⟨rfl, rfl⟩) (fun i hi => by omega)
  have uv : u = v := by
    rcases Nat.lt_trichotomy u v with h | h | h
    · exact absurd (a4 u h) e5
    · exact h
    · exact absurd (e4 v h) a5
  subst uv
  have inG : ∃ i, i < 4 ∧ ¬ G (u + i) = 0 := by
    obtain ⟨j, hj⟩ := nG
    have j4 : j < 4 := Classical.byContradiction fun q => hj (zG j (by omega))
    have ju : u ≤ j := Nat.le_of_not_lt fun q => hj (a4 j q).1
    exact ⟨j - u, by omega, by rw [show u + (j - u) = j by omega]; exact hj⟩
  have inH : ∃ i, i < 4 ∧ ¬ H (u + i) = 0 := by
    obtain ⟨j, hj⟩ := nH
    have j4 : j < 4 := Classical.byContradiction fun q => hj (zH j (by omega))
    have ju : u ≤ j := Nat.le_of_not_lt fun q => hj (a4 j q).2
    exact ⟨j - u, by omega, by rw [show u + (j - u) = j by omega]; exact hj⟩
  refine ⟨J', K, by rw [c1, a1], ?_, fun i hi => ?_, ⟨fun i hi => ?_, fun i q1 q2 => ?_, ?_, ?_, ?_, ?_⟩, a6, fun q q1 q2 => by rw [e6 q q1 q2, d3 q q2, b3 q q1]⟩
  · rw [c2]
    unfold Mo_byRoots_29
    rw [mv_15, b1, bn1_s, mv_16, show (1 : Int32) - nI x = nI (1 - x) from nI_sub (a := 1) (by omega), show (0 : Int32) = nI 0 from rfl, d1, bn1_s, e1]
  · rw [(e3 i hi).1, (e3 i hi).2, (a3 i hi).1, (a3 i hi).2]; exact ⟨rfl, rfl⟩
  · rw [(a3 i (by omega)).1, (a3 i (by omega)).2]; exact ⟨bG _, bH _⟩
  · rw [(a3 i q2).1, (a3 i q2).2]; exact ⟨zG _ (by omega), zH _ (by omega)⟩
  · obtain ⟨i, hi, h⟩ := inG; exact ⟨i, hi, by rw [(a3 i (by omega)).1]; exact h⟩
  · obtain ⟨i, hi, h⟩ := inH; exact ⟨i, hi, by rw [(a3 i (by omega)).2]; exact h⟩
  · rw [(a3 3 (by decide)).2, (a3 0 (by decide)).1, Nat.add_zero]
    intro q
    have u0 : u = 0 := Classical.byContradiction fun z => q (zH _ (by omega))
    rw [u0] at q ⊢
    exact h3 q
  · rw [(a3 0 (by decide)).1, (a3 0 (by decide)).2, Nat.add_zero]; exact a5
theorem loads {x : Nat} {w : Nat → Bool} {I : HI} {J J2 : HJ} {p1 : Int32} (hx : x < 2) (hP : ∀ i, i < 7 → J (ab w 39 + 1) i = (I 4 (7 * x + i)).toInt64) (hQ : ∀ i, i < 7 → J (be w 39 + 1) i = (I 4 (7 * (1 - x) + i)).toInt64) (hb : ∀ k, k < 14 → -9 ≤ (I 4 k).toInt ∧ (I 4 k).toInt ≤ 9) (hl : lawf (zi (I 4) x) (zi (I 4) (1 - x)) = true) : ∃ (J' K : HJ), Un_loadInX (nn w) 30 J = some J' ∧ Mo_byRoots_14 N_m 0 p1 I J2 (nI x) = Mo_byRoots_91 N_m 0 p1 I K ∧ (∀ i, i < 7 → K 9 i = J' (ab w 44 + 1) i ∧ K 10 i = J' (be w 44 + 1) i) ∧ LD (J' (ab w 44 + 1)) (J' (be w 44 + 1)) ∧ (∀ r, r ≠ 46 → r ≠ 48 → J' r = J r) ∧ ∀ q, q ≠ 9 → q ≠ 10 → K q = J2 q := by
  obtain ⟨W, hW⟩ : ∃ W : Nat → Int64, W = fun k => (I 4 (7 * x + k)).toInt64 := ⟨_, rfl⟩
  obtain ⟨U, hU⟩ : ∃ U : Nat → Int64, U = fun k => (I 4 (7 * (1 - x) + k)).toInt64 := ⟨_, rfl⟩
  have Wi : ∀ k, W k = (I 4 (7 * x + k)).toInt64 := fun k => by rw [hW]
  have Ui : ∀ k, U k = (I 4 (7 * (1 - x) + k)).toInt64 := fun k => by rw [hU]
  have wP : ∀ i, i < 7 → J (ab w 39 + 1) i = W i := fun i hi => by rw [hP i hi, Wi]
  have uQ : ∀ i, i < 7 → J (be w 39 + 1) i = U i := fun i hi => by rw [hQ i hi, Ui]
  have wz : ∀ k, zi (I 4) x k = true → W k = 0 := fun k h => by rw [Wi]; exact i64_0.mpr (of_decide_eq_true h)
  have uz : ∀ k, zi (I 4) (1 - x) k = true → U k = 0 := fun k h => by rw [Ui]; exact i64_0.mpr (of_decide_eq_true h)
  have wn : ∀ k, zi (I 4) x k = false → ¬ W k = 0 := fun k h => by rw [Wi]; exact fun q => of_decide_eq_false h (i64_0.mp q)
  have un : ∀ k, zi (I 4) (1 - x) k = false → ¬ U k = 0 := fun k h => by rw [Ui]; exact fun q => of_decide_eq_false h (i64_0.mp q)
  have bW : ∀ k, k < 7 → lb (W k) 9 := fun k hk => by rw [Wi]; exact lb_32 (by have := hb (7 * x + k) (by omega); omega)
  have bU : ∀ k, k < 7 → lb (U k) 9 := fun k hk => by rw [Ui]; exact lb_32 (by have := hb (7 * (1 - x) + k) (by omega); omega)
  have zlP : ∀ j, j < 7 → zl (J (ab w 39 + 1)) j = zi (I 4) x j := fun j hj => by
    cases h : zi (I 4) x j with
    | true => exact zl_t (by rw [wP j hj]; exact wz j h)
    | false => exact decide_eq_false (by rw [wP j hj]; exact wn j h)
  have pevP : pev (zl (J (ab w 39 + 1))) = pev (zi (I 4) x) := by
    unfold pev
    rw [zlP 0 (by decide), zlP 1 (by decide), zlP 2 (by decide), zlP 3 (by decide), zlP 4 (by decide), zlP 5 (by decide), zlP 6 (by decide)]
  have cl : Un_loadInX (nn w) 30 J = if b2i (pev (zi (I 4) x)) = 0 then Un_loadInX_19 (nn w) 30 J (-1) else Un_loadInX_19 (nn w) 30 J 0 := by
    unfold Un_loadInX Un_loadInX_0
    rw [nv_30_1, pa_0 pa_39, Po_isOfParity_0s (isPa_ab pa_39 w), bn1_s, pevP]
  have mo : Mo_byRoots_14 N_m 0 p1 I J2 (nI x) = if srt (ev (zi (I 4) x)) (od (zi (I 4) x)) = 1 then Mo_byRoots_29 N_m 0 p1 I J2 (nI x) 1 else Mo_byRoots_29 N_m 0 p1 I J2 (nI x) 0 := by
    unfold Mo_byRoots_14
    rw [Mo_sort_s hx, bn1_s]
  obtain ⟨e, hpar, ⟨ia, hia, za⟩, ib, hib, zb⟩ := law_par hl
  unfold lawf at hl
  rw [Bool.or_eq_true, Bool.and_eq_true, Bool.and_eq_true] at hl
  rcases hl with ⟨he, ho⟩ | ⟨ho, he⟩
  · have he' := he
    have ho' := ho
    rw [pev_e] at he'
    rw [Bool.and_eq_true, Bool.not_eq_true'] at he'
    unfold pev at he
    unfold pod at ho
    simp only [Bool.and_eq_true, Bool.not_eq_true', Bool.and_eq_false_iff] at he ho
    obtain ⟨⟨⟨z1, z3⟩, z5⟩, _⟩ := he
    obtain ⟨⟨⟨⟨y0, y2⟩, y4⟩, y6⟩, _⟩ := ho
    refine loads_core (G := fun i => if i < 4 then W (2 * i) else 0) (H := fun i => if i < 3 then U (2 * i + 1) else 0) (s0 := 0) (o := 0) hx (by decide) (fun j hj => ?_) (fun j hj => ?_) (fun j hj => if_neg (by omega)) (fun j hj => if_neg (by omega)) ?_ ?_ (fun j => ?_) (fun j => ?_) (fun q => absurd rfl q) (fun i hi => ?_) (fun i hi => ?_) (by rw [cl]; rw [if_neg]; rw [pev_e, he'.1, he'.2]; decide) (by rw [mo, he'.1, he'.2, if_neg (by decide)]; rfl)
    · show pat (J (ab w 39 + 1)) (0 + 2 * nI j) = if j < 4 then W (2 * j) else 0
      rw [i2m, show (0 : Int32) + nI (2 * j) = nI (2 * j) from by generalize nI (2 * j) = y; grind]
      by_cases c : j < 4
      · rw [if_pos c, pat_nI (by omega), wP _ (by omega)]
      · rw [if_neg c, pat_hi (by omega) (by omega)]
    · show pat (J (be w 39 + 1)) (0 + 1 + 2 * nI j) = if j < 3 then U (2 * j + 1) else 0
      rw [i2m, show (0 : Int32) + 1 + nI (2 * j) = nI (2 * j + 1) from by rw [← nI_1]; generalize nI (2 * j) = y; grind]
      by_cases c : j < 3
      · rw [if_pos c, pat_nI (by omega), uQ _ (by omega)]
      · rw [if_neg c, pat_hi (by omega) (by omega)]
    · have i2 : ia % 2 = 0 := by
        rcases (show ia % 2 = 0 ∨ ia % 2 = 1 by omega) with h | h
        · exact h
        · rcases (show ia = 1 ∨ ia = 3 ∨ ia = 5 by omega) with rfl | rfl | rfl
          · rw [z1] at za; exact absurd za (by decide)
          · rw [z3] at za; exact absurd za (by decide)
          · rw [z5] at za; exact absurd za (by decide)
      refine ⟨ia / 2, ?_⟩
      show ¬ (if ia / 2 < 4 then W (2 * (ia / 2)) else 0) = 0
      rw [if_pos (by omega), show 2 * (ia / 2) = ia by omega]
      exact wn ia za
    · have i2 : ib % 2 = 1 := by
        rcases (show ib % 2 = 0 ∨ ib % 2 = 1 by omega) with h | h
        · rcases (show ib = 0 ∨ ib = 2 ∨ ib = 4 ∨ ib = 6 by omega) with rfl | rfl | rfl | rfl
          · rw [y0] at zb; exact absurd zb (by decide)
          · rw [y2] at zb; exact absurd zb (by decide)
          · rw [y4] at zb; exact absurd zb (by decide)
          · rw [y6] at zb; exact absurd zb (by decide)
        · exact h
      refine ⟨ib / 2, ?_⟩
      show ¬ (if ib / 2 < 3 then U (2 * (ib / 2) + 1) else 0) = 0
      rw [if_pos (by omega), show 2 * (ib / 2) + 1 = ib by omega]
      exact un ib zb
    · show lb (if j < 4 then W (2 * j) else 0) 9
      by_cases c : j < 4
      · rw [if_pos c]; exact bW _ (by omega)
      · rw [if_neg c]; exact lb_0
    · show lb (if j < 3 then U (2 * j + 1) else 0) 9
      by_cases c : j < 3
      · rw [if_pos c]; exact bU _ (by omega)
      · rw [if_neg c]; exact lb_0
    · rw [← hW]
      have w1 := wz 1 z1
      have w3 := wz 3 z3
      have w5 := wz 5 z5
      rcases (show i = 0 ∨ i = 1 ∨ i = 2 ∨ i = 3 ∨ i = 4 ∨ i = 5 ∨ i = 6 by omega) with rfl | rfl | rfl | rfl | rfl | rfl | rfl
      · show 0 + W 0 + W 1 = W 0
        rw [w1]; grind
      · show 0 + W 2 + W 3 = W 2
        rw [w3]; grind
      · show 0 + W 4 + W 5 = W 4
        rw [w5]; grind
      · show 0 + W 6 = W 6
        grind
      · rfl
      · rfl
      · rfl
    · rw [← hU]
      have w0 := uz 0 y0
      have w2 := uz 2 y2
      have w4 := uz 4 y4
      have w6 := uz 6 y6
      rcases (show i = 0 ∨ i = 1 ∨ i = 2 ∨ i = 3 ∨ i = 4 ∨ i = 5 ∨ i = 6 by omega) with rfl | rfl | rfl | rfl | rfl | rfl | rfl
      · show 0 + U 0 + U 1 = U 1
        rw [w0]; grind
      · show 0 + U 2 + U 3 = U 3
        rw [w2]; grind
      · show 0 + U 4 + U 5 = U 5
        rw [w4]; grind
      · show 0 + U 6 = 0
        rw [w6]; grind
      · rfl
      · rfl
      · rfl
  · have ho' := ho
    rw [pod_e] at ho'
    rw [Bool.and_eq_true, Bool.not_eq_true'] at ho'
    unfold pev at he
    unfold pod at ho
    simp only [Bool.and_eq_true, Bool.not_eq_true', Bool.and_eq_false_iff] at he ho
    obtain ⟨⟨⟨y1, y3⟩, y5⟩, _⟩ := he
    obtain ⟨⟨⟨⟨z0, z2⟩, z4⟩, z6⟩, _⟩ := ho
    refine loads_core (G := fun i => if i = 0 then 0 else if i < 4 then W (2 * i - 1) else 0) (H := fun i => if i < 4 then U (2 * i) else 0) (s0 := -1) (o := 1) hx (by decide) (fun j hj => ?_) (fun j hj => ?_) (fun j hj => by show (if j = 0 then (0 : Int64) else if j < 4 then W (2 * j - 1) else 0) = 0; rw [if_neg (by omega), if_neg (by omega)]) (fun j hj => if_neg (by omega)) ?_ ?_ (fun j => ?_) (fun j => ?_) (fun q => rfl) (fun i hi => ?_) (fun i hi => ?_) (by rw [cl]; rw [if_pos]; rw [pev_e, ho'.1, ho'.2]; decide) (by rw [mo, ho'.1, ho'.2, if_pos (by decide)]; rfl)
    · show pat (J (ab w 39 + 1)) (-1 + 2 * nI j) = if j = 0 then 0 else if j < 4 then W (2 * j - 1) else 0
      by_cases c0 : j = 0
      · subst c0; rw [if_pos rfl]; exact pat_neg (by decide)
      · rw [if_neg c0, i2m, show (-1 : Int32) + nI (2 * j) = nI (2 * j - 1) from by rw [show 2 * j = (2 * j - 1) + 1 by omega, ← nI_1, show 2 * j - 1 + 1 - 1 = 2 * j - 1 by omega]; generalize nI (2 * j - 1) = y; grind]
        by_cases c : j < 4
        · rw [if_pos c, pat_nI (by omega), wP _ (by omega)]
        · rw [if_neg c, pat_hi (by omega) (by omega)]
    · show pat (J (be w 39 + 1)) (-1 + 1 + 2 * nI j) = if j < 4 then U (2 * j) else 0
      rw [i2m, show (-1 : Int32) + 1 + nI (2 * j) = nI (2 * j) from by generalize nI (2 * j) = y; grind]
      by_cases c : j < 4
      · rw [if_pos c, pat_nI (by omega), uQ _ (by omega)]
      · rw [if_neg c, pat_hi (by omega) (by omega)]
    · have i2 : ia % 2 = 1 := by
        rcases (show ia % 2 = 0 ∨ ia % 2 = 1 by omega) with h | h
        · rcases (show ia = 0 ∨ ia = 2 ∨ ia = 4 ∨ ia = 6 by omega) with rfl | rfl | rfl | rfl
          · rw [z0] at za; exact absurd za (by decide)
          · rw [z2] at za; exact absurd za (by decide)
          · rw [z4] at za; exact absurd za (by decide)
          · rw [z6] at za; exact absurd za (by decide)
        · exact h
      refine ⟨(ia + 1) / 2, ?_⟩
      show ¬ (if (ia + 1) / 2 = 0 then 0 else if (ia + 1) / 2 < 4 then W (2 * ((ia + 1) / 2) - 1) else 0) = 0
      rw [if_neg (by omega), if_pos (by omega), show 2 * ((ia + 1) / 2) - 1 = ia by omega]
      exact wn ia za
    · have i2 : ib % 2 = 0 := by
        rcases (show ib % 2 = 0 ∨ ib % 2 = 1 by omega) with h | h
        · exact h
        · rcases (show ib = 1 ∨ ib = 3 ∨ ib = 5 by omega) with rfl | rfl | rfl
          · rw [y1] at zb; exact absurd zb (by decide)
          · rw [y3] at zb; exact absurd zb (by decide)
          · rw [y5] at zb; exact absurd zb (by decide)
      refine ⟨ib / 2, ?_⟩
      show ¬ (if ib / 2 < 4 then U (2 * (ib / 2)) else 0) = 0
      rw [if_pos (by omega), show 2 * (ib / 2) = ib by omega]
      exact un ib zb
    · show lb (if j = 0 then 0 else if j < 4 then W (2 * j - 1) else 0) 9
      by_cases c0 : j = 0
      · rw [if_pos c0]; exact lb_0
      · rw [if_neg c0]
        by_cases c : j < 4
        · rw [if_pos c]; exact bW _ (by omega)
        · rw [if_neg c]; exact lb_0
    · show lb (if j < 4 then U (2 * j) else 0) 9
      by_cases c : j < 4
      · rw [if_pos c]; exact bU _ (by omega)
      · rw [if_neg c]; exact lb_0
    · rw [← hW]
      have w0 := wz 0 z0
      have w2 := wz 2 z2
      have w4 := wz 4 z4
      have w6 := wz 6 z6
      rcases (show i = 0 ∨ i = 1 ∨ i = 2 ∨ i = 3 ∨ i = 4 ∨ i = 5 ∨ i = 6 by omega) with rfl | rfl | rfl | rfl | rfl | rfl | rfl
      · show 0 + W 0 = 0
        rw [w0]; grind
      · show 0 + W 1 + W 2 = W 1
        rw [w2]; grind
      · show 0 + W 3 + W 4 = W 3
        rw [w4]; grind
      · show 0 + W 5 + W 6 = W 5
        rw [w6]; grind
      · rfl
      · rfl
      · rfl
    · rw [← hU]
      have w1 := uz 1 y1
      have w3 := uz 3 y3
      have w5 := uz 5 y5
      rcases (show i = 0 ∨ i = 1 ∨ i = 2 ∨ i = 3 ∨ i = 4 ∨ i = 5 ∨ i = 6 by omega) with rfl | rfl | rfl | rfl | rfl | rfl | rfl
      · show 0 + U 0 + U 1 = U 0
        rw [w1]; grind
      · show 0 + U 2 + U 3 = U 2
        rw [w3]; grind
      · show 0 + U 4 + U 5 = U 4
        rw [w5]; grind
      · show 0 + U 6 = U 6
        grind
      · rfl
      · rfl
      · rfl
