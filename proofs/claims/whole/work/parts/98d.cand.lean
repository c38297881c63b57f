/-- a small number as an int -/
def iz (z : Int) : Int32 := Int32.ofInt z
theorem iz_i {z : Int} (h : -100 ≤ z ∧ z ≤ 100) : (iz z).toInt = z := by
  unfold iz
  exact Int32.toInt_ofInt_of_le (by omega) (by omega)
theorem iz_m {a b : Int} (ha : -10 ≤ a ∧ a ≤ 10) (hb : -10 ≤ b ∧ b ≤ 10) : (iz a * iz b).toInt = a * b := by
  have e : (a * b).natAbs ≤ 10 * 10 := by rw [Int.natAbs_mul]; exact Nat.mul_le_mul (by omega) (by omega)
  rw [Int32.toInt_mul, iz_i (by omega), iz_i (by omega), Int.bmod_eq_of_le (by omega) (by omega)]
theorem iz_le {a b c d : Int} (ha : -10 ≤ a ∧ a ≤ 10) (hb : -10 ≤ b ∧ b ≤ 10) (hc : -10 ≤ c ∧ c ≤ 10) (hd : -10 ≤ d ∧ d ≤ 10) : iz a * iz b ≤ iz c * iz d ↔ a * b ≤ c * d := by
  rw [Int32.le_iff_toInt_le, iz_m ha hb, iz_m hc hd]
theorem iz_0 {a : Int} (ha : -10 ≤ a ∧ a ≤ 10) : iz a = 0 ↔ a = 0 := by
  constructor
  · intro h
    have := congrArg Int32.toInt h
    rw [iz_i (by omega), i32_0] at this
    exact this
  · rintro rfl; rfl
theorem cx_a : ∀ x, x < 162 → ((nI x - nI x / 81 * 81) / 9 + 1) * (if 81 ≤ x then 1 else -1) = iz (ca x) ∧ (nI x - nI x / 9 * 9) + 1 = iz (cb x) := by decide +kernel
theorem cx_b : ∀ x, x < 162 → (-9 ≤ ca x ∧ ca x ≤ 9) ∧ 1 ≤ cb x ∧ cb x ≤ 9 := by decide +kernel
theorem cnx_b {p q : Int} : ∀ k, k ≤ 162 → (-10 ≤ (cnx p q k).1 ∧ (cnx p q k).1 ≤ 10) ∧ -10 ≤ (cnx p q k).2 ∧ (cnx p q k).2 ≤ 10
  | 0, _ => ⟨⟨by show (-10 : Int) ≤ 0; decide, by show (0 : Int) ≤ 10; decide⟩, by show (-10 : Int) ≤ 0; decide, by show (0 : Int) ≤ 10; decide⟩
  | k + 1, hk => by
    have ih := cnx_b (p := p) (q := q) k (by omega)
    have hx := cx_b k (by omega)
    have e : cnx p q (k + 1) = cnx p q k ∨ cnx p q (k + 1) = (ca k, cb k) := by
      show cst p q (cnx p q k) k = _ ∨ cst p q (cnx p q k) k = _
      unfold cst
      by_cases h1 : ca k * q ≤ p * cb k
      · rw [if_pos h1]; exact Or.inl rfl
      · rw [if_neg h1]
        by_cases h2 : (cnx p q k).2 = 0
        · rw [if_pos h2]; exact Or.inr rfl
        · rw [if_neg h2]
          by_cases h3 : (cnx p q k).1 * cb k ≤ ca k * (cnx p q k).2
          · rw [if_pos h3]; exact Or.inl rfl
          · rw [if_neg h3]; exact Or.inr rfl
    rcases e with e | e
    · rw [e]; exact ih
    · rw [e]; exact ⟨⟨by omega, by omega⟩, by omega, by omega⟩
theorem cand_30 {p0 p1 x7 : Int32} {p q : Int} {K : Int32 → Int32 → Int32 → Int32 → Int32 → Option Int32} (hp : -10 ≤ p ∧ p ≤ 10) (hq : -10 ≤ q ∧ q ≤ 10) : Mo_candidate_30 p0 p1 K 256 0 0 (iz p) (iz q) x7 0 = if (cnx p q 162).2 = 0 then some 0 else K (iz (cnx p q 162).1) (iz (cnx p q 162).2) (iz (cnx p q 162).1) (iz (cnx p q 162).2) (x7 + 1) := by
  refine up_loop (fun n (S : Int32 × Int32) y => Mo_candidate_30 p0 p1 K n S.1 S.2 (iz p) (iz q) x7 y) (fun k => (iz (cnx p q k).1, iz (cnx p q k).2)) _ 162 (fun n k hk => ?_) (fun n => ?_) 256 0 (by decide) (by decide)
  · show Mo_candidate_30b p0 p1 K (Mo_candidate_30 p0 p1 K n) (iz (cnx p q k).1) (iz (cnx p q k).2) (iz p) (iz q) x7 (nI k) = _
    have c1 := (cx_a k hk).1
    have c2 := (cx_a k hk).2
    have b1 := (cx_b k hk).1
    have b2 := (cx_b k hk).2
    have b3 := cnx_b (p := p) (q := q) k (by omega)
    have go : Mo_candidate_60 p0 p1 K (Mo_candidate_30 p0 p1 K n) (iz (cnx p q k).1) (iz (cnx p q k).2) (iz p) (iz q) x7 (nI k) ((nI k - nI k / 81 * 81) / 9 + 1) (if 81 ≤ k then 1 else -1) = Mo_candidate_30 p0 p1 K n (iz (cnx p q (k + 1)).1) (iz (cnx p q (k + 1)).2) (iz p) (iz q) x7 (nI (k + 1)) := by
      have keep : Mo_candidate_117 p0 p1 K (Mo_candidate_30 p0 p1 K n) (iz (cnx p q k).1) (iz (cnx p q k).2) (iz p) (iz q) x7 (nI k) (iz (ca k)) (iz (cb k)) = Mo_candidate_30 p0 p1 K n (iz (cnx p q k).1) (iz (cnx p q k).2) (iz p) (iz q) x7 (nI (k + 1)) := by
        unfold Mo_candidate_117 Mo_candidate_118 Mo_candidate_132 Mo_candidate_145
        rw [if_pos rfl, if_pos rfl, nI_1]
      have take : Mo_candidate_112 p0 p1 K (Mo_candidate_30 p0 p1 K n) (iz (cnx p q k).1) (iz (cnx p q k).2) (iz p) (iz q) x7 (nI k) (iz (ca k)) (iz (cb k)) = Mo_candidate_30 p0 p1 K n (iz (ca k)) (iz (cb k)) (iz p) (iz q) x7 (nI (k + 1)) := by
        have ne : ¬ nI k = -1 := fun h => by
          have := congrArg Int32.toInt h
          rw [nI_toInt (by omega), show (-1 : Int32).toInt = -1 from rfl] at this
          omega
        unfold Mo_candidate_112 Mo_candidate_118 Mo_candidate_132 Mo_candidate_145
        rw [if_neg ne, if_neg ne, nI_1]
      have st : cnx p q (k + 1) = cst p q (cnx p q k) k := rfl
      unfold Mo_candidate_60 Mo_candidate_90
      rw [bd_e, bd_e, c1, c2, st]
      unfold cst
      by_cases h1 : ca k * q ≤ p * cb k
      · rw [if_pos ((iz_le (by omega) hq hp (by omega)).mpr h1), if_pos rfl, keep, if_pos h1]
      · rw [if_neg (fun h => h1 ((iz_le (by omega) hq hp (by omega)).mp h)), if_neg (by decide), if_neg h1]
        by_cases h2 : (cnx p q k).2 = 0
        · rw [if_pos ((iz_0 b3.2).mpr h2), take, if_pos h2]
        · rw [if_neg (fun h => h2 ((iz_0 b3.2).mp h)), if_neg h2]
          by_cases h3 : (cnx p q k).1 * cb k ≤ ca k * (cnx p q k).2
          · rw [if_pos ((iz_le b3.1 (by omega) (by omega) b3.2).mpr h3), keep, if_pos h3]
          · rw [if_neg (fun h => h3 ((iz_le b3.1 (by omega) (by omega) b3.2).mp h)), take, if_neg h3]
    unfold Mo_candidate_30b
    rw [if_neg (show ¬ (162 : Int32) ≤ nI k from nI_ge (a := k) (b := 162) hk (by decide))]
    by_cases h : 81 ≤ k
    · rw [if_pos (show (81 : Int32) ≤ nI k from nI_le (a := 81) h (by omega))]
      rw [if_pos h] at go
      exact go
    · rw [if_neg (show ¬ (81 : Int32) ≤ nI k from nI_ge (a := k) (b := 81) (by omega) (by decide))]
      rw [if_neg h] at go
      exact go
  · show Mo_candidate_30b p0 p1 K (Mo_candidate_30 p0 p1 K n) (iz (cnx p q 162).1) (iz (cnx p q 162).2) (iz p) (iz q) x7 (nI 162) = _
    have b3 := cnx_b (p := p) (q := q) 162 (by decide)
    unfold Mo_candidate_30b
    rw [if_pos (by decide)]
    by_cases h2 : (cnx p q 162).2 = 0
    · rw [if_pos ((iz_0 b3.2).mpr h2), if_pos h2]
    · rw [if_neg (fun h => h2 ((iz_0 b3.2).mp h)), if_neg h2]
theorem p_ok {k : Nat} (hk : k < 111) : (-10 ≤ pA k ∧ pA k ≤ 10) ∧ -10 ≤ pB k ∧ pB k ≤ 10 := by
  unfold pA pB
  by_cases h : k = 0
  · rw [if_pos h, if_pos h]; decide
  · have := t_ok (k - 1) (by omega)
    rw [if_neg h, if_neg h]
    omega
theorem cand_17 {m : Nat} {p1 : Int32} (hm : m < 110) : ∀ r k n (x y : Int32), k + r = m + 1 → r < n → (r = 0 → x = iz (tA m) ∧ y = iz (tB m)) → Mo_candidate_17 (nI m) p1 n x y (iz (pA k)) (iz (pB k)) (nI k) = some (if p1 = 0 then iz (tA m) else iz (tB m))
  | 0, k, n + 1, x, y, hk, hn, hx => by
    obtain ⟨rfl, rfl⟩ := hx rfl
    show Mo_candidate_17b (nI m) p1 (Mo_candidate_17 (nI m) p1 n) _ _ (iz (pA k)) (iz (pB k)) (nI k) = _
    unfold Mo_candidate_17b
    rw [if_pos ((nI_ltI (by omega) (by omega)).mpr (by omega))]
    by_cases h : p1 = 0
    · rw [if_pos h, if_pos h]
    · rw [if_neg h, if_neg h]
  | r + 1, k, n + 1, x, y, hk, hn, hx => by
    have tk := t_ok k (by omega)
    show Mo_candidate_17b (nI m) p1 (Mo_candidate_17 (nI m) p1 n) x y (iz (pA k)) (iz (pB k)) (nI k) = _
    unfold Mo_candidate_17b
    rw [if_neg (fun q => by rw [nI_ltI (by omega) (by omega)] at q; omega), cand_30 (p_ok (by omega)).1 (p_ok (by omega)).2, cnx_t k (by omega), if_neg (show ¬ tB k = 0 by omega), nI_1]
    have := cand_17 (p1 := p1) hm r (k + 1) n (iz (tA k)) (iz (tB k)) (by omega) (by omega) (fun e => by obtain rfl : k = m := (by omega); exact ⟨rfl, rfl⟩)
    rw [show pA (k + 1) = tA k from rfl, show pB (k + 1) = tB k from rfl] at this
    exact this
theorem cand_s {m : Nat} {p1 : Int32} (hm : m < 110) : Mo_candidate (nI m) p1 = some (if p1 = 0 then iz (tA m) else iz (tB m)) := cand_17 hm (m + 1) 0 256 0 0 (by omega) (by omega) (fun h => by omega)
theorem cand_e17 {p1 : Int32} : ∀ r k n (x y : Int32), k + r = 110 → r < n → Mo_candidate_17 (nI 110) p1 n x y (iz (pA k)) (iz (pB k)) (nI k) = some 0
  | 0, k, n + 1, x, y, hk, hn => by
    obtain rfl : k = 110 := by omega
    show Mo_candidate_17b (nI 110) p1 (Mo_candidate_17 (nI 110) p1 n) x y (iz (pA 110)) (iz (pB 110)) (nI 110) = _
    unfold Mo_candidate_17b
    rw [if_neg (by decide), cand_30 (p_ok (by decide)).1 (p_ok (by decide)).2, if_pos (show (cnx (pA 110) (pB 110) 162).2 = 0 from cnx_e)]
  | r + 1, k, n + 1, x, y, hk, hn => by
    have tk := t_ok k (by omega)
    show Mo_candidate_17b (nI 110) p1 (Mo_candidate_17 (nI 110) p1 n) x y (iz (pA k)) (iz (pB k)) (nI k) = _
    unfold Mo_candidate_17b
    rw [if_neg (fun q => by rw [nI_ltI (by omega) (by omega)] at q; omega), cand_30 (p_ok (by omega)).1 (p_ok (by omega)).2, cnx_t k (by omega), if_neg (show ¬ tB k = 0 by omega), nI_1]
    have := cand_e17 (p1 := p1) r (k + 1) n (iz (tA k)) (iz (tB k)) (by omega) (by omega)
    rw [show pA (k + 1) = tA k from rfl, show pB (k + 1) = tB k from rfl] at this
    exact this
theorem cand_e {p1 : Int32} : Mo_candidate (nI 110) p1 = some 0 := by
  have h := cand_e17 (p1 := p1) 110 0 256 0 0 rfl (by decide)
  rw [show iz (pA 0) = -10 from by decide, show iz (pB 0) = 1 from by decide, nI_0] at h
  unfold Mo_candidate Mo_candidate_0
  exact h
/-- the table is there -/
def RT (I : HI) : Prop := I 0 21 = nI 110 ∧ ∀ k, k < 110 → I 13 k = iz (tA k) ∧ I 14 k = iz (tB k)
theorem RT_RC {I : HI} (h : RT I) : RC (I 13) (I 14) (I 0 21) := by
  refine Or.inr ⟨110, by decide, h.1, fun k hk => ⟨?_, ?_, ?_⟩, Or.inr cand_e⟩
  · rw [cand_s hk, if_pos rfl, (h.2 k hk).1]
  · rw [cand_s hk, if_neg (by decide), (h.2 k hk).2]
  · have := t_ok k hk
    rw [(h.2 k hk).2]
    exact fun q => by have := (iz_0 (by omega)).mp q; omega
theorem tm13 {k : Nat} (h : k < 120) : inb (nI k) (Tm 13).2 = true := inb_nI h (by decide)
theorem tm14 {k : Nat} (h : k < 120) : inb (nI k) (Tm 14).2 = true := inb_nI h (by decide)
theorem cands_s {I : HI} (h : RC (I 13) (I 14) (I 0 21)) : ∃ I' : HI, Mo_candidates N_m 0 I = some I' ∧ RT I' ∧ (∀ a, a ≠ 0 → a ≠ 13 → a ≠ 14 → I' a = I a) ∧ ∀ k, k ≠ 21 → I' 0 k = I 0 k := by
  unfold Mo_candidates Mo_candidates_0
  rcases h with h0 | ⟨n, hn, hc, hk, he⟩
  · rw [h0, if_pos (by decide)]
    have lp : ∀ r k n (I1 : HI), k + r = 110 → r < n → I1 0 21 = nI k → (∀ j, j < k → I1 13 j = iz (tA j) ∧ I1 14 j = iz (tB j)) → (∀ a, a ≠ 0 → a ≠ 13 → a ≠ 14 → I1 a = I a) → (∀ k, k ≠ 21 → I1 0 k = I 0 k) → ∃ I' : HI, Mo_candidates_10 N_m 0 n I1 (nI k) = some I' ∧ RT I' ∧ (∀ a, a ≠ 0 → a ≠ 13 → a ≠ 14 → I' a = I a) ∧ ∀ k, k ≠ 21 → I' 0 k = I 0 k := by
      intro r
      induction r with
      | zero =>
        intro k n I1 hk hn h1 h2 h3 h4
        obtain rfl : k = 110 := by omega
        obtain ⟨m, rfl⟩ : ∃ m, n = m + 1 := ⟨n - 1, by omega⟩
        refine ⟨I1, ?_, ⟨h1, h2⟩, h3, h4⟩
        show Mo_candidates_10b N_m 0 (Mo_candidates_10 N_m 0 m) I1 (nI 110) = _
        unfold Mo_candidates_10b
        rw [if_neg (by decide), cand_e, bn1_s, if_pos rfl]
      | succ r ih =>
        intro k n I1 hk hn h1 h2 h3 h4
        obtain ⟨m, rfl⟩ : ∃ m, n = m + 1 := ⟨n - 1, by omega⟩
        have tk := t_ok k (by omega)
        obtain ⟨I', i1, i2⟩ := ih (k + 1) m (up2 (up2 (up2 I1 13 k (iz (tA k))) 14 k (iz (tB k))) 0 21 (nI (k + 1))) (by omega) (by omega) (by rw [up2_at, va_up_at]) (fun j hj => by
          have q13 : up2 (up2 (up2 I1 13 k (iz (tA k))) 14 k (iz (tB k))) 0 21 (nI (k + 1)) 13 = va_up (I1 13) k (iz (tA k)) := by rw [up2_of (by decide), up2_of (by decide), up2_at]
          have q14 : up2 (up2 (up2 I1 13 k (iz (tA k))) 14 k (iz (tB k))) 0 21 (nI (k + 1)) 14 = va_up (I1 14) k (iz (tB k)) := by rw [up2_of (by decide), up2_at, up2_of (by decide)]
          rw [q13, q14]
          by_cases e : j = k
          · subst e; rw [va_up_at, va_up_at]; exact ⟨rfl, rfl⟩
          · rw [va_up_of e, va_up_of e]; exact h2 j (by omega)) (fun a a0 a1 a2 => by rw [up2_of a0, up2_of a2, up2_of a1]; exact h3 a a0 a1 a2) (fun j hj => by rw [up2_at, va_up_of hj, up2_of (by decide), up2_of (by decide)]; exact h4 j hj)
        refine ⟨I', ?_, i2⟩
        rw [← i1]
        show Mo_candidates_10b N_m 0 (Mo_candidates_10 N_m 0 m) I1 (nI k) = _
        unfold Mo_candidates_10b
        rw [if_neg (show ¬ (120 : Int32) ≤ nI k from nI_ge (a := k) (b := 120) (by omega) (by decide)), cand_s (by omega), bn1_s, if_neg (show ¬ (1 : Int32) = 0 by decide), if_neg (fun q => by have := (iz_0 (by omega)).mp q; omega), mv_19, cand_s (by omega), bn1_s, gd_of (tm13 (by omega)), bd_e, mv_20, gd_of (tm14 (by omega)), bd_e, bd_e, nI_clamp (by omega), if_pos rfl, up2_of (show (0 : Nat) ≠ 14 by decide), up2_of (show (0 : Nat) ≠ 13 by decide), h1, nI_1]
    obtain ⟨I', i1, i2⟩ := lp 110 0 256 I (by decide) (by decide) h0 (fun j hj => by omega) (fun _ _ _ _ => rfl) (fun _ _ => rfl)
    exact ⟨I', i1, i2⟩
  · have n110 : n = 110 := by
      rcases Nat.lt_trichotomy n 110 with h | h | h
      · rcases he with e | e
        · omega
        · rw [cand_s h, if_neg (by decide)] at e
          have tk := t_ok n h
          have := Option.some.inj e
          have := (iz_0 (by omega)).mp this
          omega
      · exact h
      · obtain ⟨_, e1, e2⟩ := hk 110 h
        rw [cand_e] at e1
        exact absurd (Option.some.inj e1).symm e2
    subst n110
    rw [hc, if_neg (by decide)]
    refine ⟨I, rfl, ⟨hc, fun k hk' => ?_⟩, fun _ _ _ _ => rfl, fun _ _ => rfl⟩
    obtain ⟨e1, e2, _⟩ := hk k hk'
    rw [cand_s hk', if_pos rfl] at e1
    rw [cand_s hk', if_neg (by decide)] at e2
    exact ⟨(Option.some.inj e1).symm, (Option.some.inj e2).symm⟩
