/-- the digest's sum of f -/
def dg (f : Nat → Int64) (x : Int64) : Nat → Int64
  | 0 => x
  | k + 1 => 31 * dg f x k + f k
theorem dg_congr {f g : Nat → Int64} {x : Int64} : ∀ n, (∀ k, k < n → f k = g k) → dg f x n = dg g x n
  | 0, _ => rfl
  | n + 1, h => by
    show 31 * dg f x n + f n = 31 * dg g x n + g n
    rw [dg_congr n (fun k hk => h k (by omega)), h n (by omega)]
theorem dg_add {f : Nat → Int64} {x : Int64} {a : Nat} : ∀ n, dg f x (a + n) = dg (fun j => f (a + j)) (dg f x a) n
  | 0 => rfl
  | n + 1 => by
    show 31 * dg f x (a + n) + f (a + n) = _
    rw [dg_add n]; rfl
theorem cel_s {w : Nat → Bool} {I I2 : HI} {m k j : Nat} (hL : RL m (I 6 1) (I2 0 6) (fun k => I (8 + k)) (I2 5)) (hk : k < m) (hj : j < 5) : Lm_element I (nn w) 0 (nI k) (nI j) = some (I2 5 (5 * k + j)) := by
  obtain ⟨hm, hc, hc2, hrow, -, -⟩ := hL
  unfold Lm_element Lm_element_0
  rw [if_neg (nI_pos (by omega)), nv_0_1, hc, if_neg (nI_ge hk (by omega)), if_neg (nI_pos (by omega)), if_pos (show nI j < (5 : Int32) from nI_lt (b := 5) hj (by decide)), nv_0_1, La_item_s la_6 hm hc hk hj, bn1_s]
  exact congrArg some (hrow k hk j hj)
theorem cbill_s {w : Nat → Bool} {I I2 : HI} {m k j : Nat} (hL : RL m (I 6 1) (I2 0 6) (fun k => I (8 + k)) (I2 5)) (hB : RB I (I2 5) (2 * m)) (hk : k < cnt (fsb (I2 5) true) (2 * m)) (hj : j < 4) : ∃ x, Lm_bill I (nn w) 0 (nI k) (nI j) = some (I (58 + k) j) ∧ Mo_nthPart I2 N_m 0 (nI k) = some (nI x) ∧ Mo_billBy I2 N_m 0 (nI x) (nI j) = some (I (58 + k) j) := by
  obtain ⟨hm, hc, hc2, hrow, ha, hv⟩ := hL
  obtain ⟨hb, hbr⟩ := hB
  have c6 := cnt_6 (A := I2 5) hv (Nat.le_refl (2 * m)) true
  obtain ⟨x, g1, g2, g3⟩ := cnt_sur _ k hk
  subst g3
  refine ⟨x, ?_, Mo_nthPart_s hm hc2 ha g1 g2, ?_⟩
  · unfold Lm_bill Lm_bill_0
    rw [if_neg (nI_pos (by omega)), nv_0_4, hb, if_neg (nI_ge hk (by omega)), if_neg (nI_pos (by omega)), if_pos (show nI j < (4 : Int32) from nI_lt (b := 4) hj (by decide)), nv_0_4, Bi_item_s c6 hb hk hj, bn1_s]
  · rw [Mo_billBy_s hm hc2 g1 hj]
    obtain ⟨⟨m0, m1, m2⟩, m3⟩ := hbr x g1 g2
    refine congrArg some ?_
    rcases (show j = 0 ∨ j = 1 ∨ j = 2 ∨ j = 3 by omega) with rfl | rfl | rfl | rfl
    · rw [m0]; rfl
    · rw [m1]; rfl
    · rw [m2]; rfl
    · rw [m3]; rfl
/-- the class's rows of elements, bill and memory -/
theorem cd_20 {w : Nat → Bool} {I I2 : HI} {J : HJ} {m k : Nat} {p x : Int64} {K : HJ → Int64 → Int32 → Option (HJ × Int64)} (hL : RL m (I 6 1) (I2 0 6) (fun k => I (8 + k)) (I2 5)) (hk : k < m) : Lm_digestOfRows_20 I (nn w) 0 p K 256 J x (nI k) 0 = K J (dg (fun j => (I2 5 (5 * k + j)).toInt64) x 5) (nI (k + 1)) := by
  refine up_loop (fun n S y => Lm_digestOfRows_20 I (nn w) 0 p K n J S (nI k) y) (fun j => dg (fun j => (I2 5 (5 * k + j)).toInt64) x j) _ 5 (fun n j hj => ?_) (fun n => ?_) 256 0 (by decide) (by decide)
  · show Lm_digestOfRows_20b I (nn w) 0 p K (Lm_digestOfRows_20 I (nn w) 0 p K n) J _ (nI k) (nI j) = _
    unfold Lm_digestOfRows_20b
    rw [if_neg (n5 hj), cel_s hL hk hj, bn1_s, bd_e, nI_1]
    rfl
  · show Lm_digestOfRows_20b I (nn w) 0 p K (Lm_digestOfRows_20 I (nn w) 0 p K n) J _ (nI k) (nI 5) = _
    unfold Lm_digestOfRows_20b
    rw [if_pos (by decide), nI_1]
theorem cd_5 {w : Nat → Bool} {I I2 : HI} {J : HJ} {m : Nat} {x : Int64} (hL : RL m (I 6 1) (I2 0 6) (fun k => I (8 + k)) (I2 5)) : Lm_digestOfRows I (nn w) 0 x J = Lm_digestOfRows_57 I (nn w) 0 x 256 J (dg (fun t => (I2 5 t).toInt64) x (5 * m)) 0 := by
  unfold Lm_digestOfRows Lm_digestOfRows_0
  have hm := hL.1
  refine up_loop (fun n S y => Lm_digestOfRows_5 I (nn w) 0 x n J S y) (fun k => dg (fun t => (I2 5 t).toInt64) x (5 * k)) _ m (fun n k hk => ?_) (fun n => ?_) 256 0 (by omega) (by omega)
  · show Lm_digestOfRows_5b I (nn w) 0 x (Lm_digestOfRows_5 I (nn w) 0 x n) J _ (nI k) = Lm_digestOfRows_5 I (nn w) 0 x n J (dg (fun t => (I2 5 t).toInt64) x (5 * k + 5)) (nI (k + 1))
    unfold Lm_digestOfRows_5b
    rw [nv_0_1, hL.2.1, if_neg (nI_ge hk (by omega)), cd_20 hL hk, dg_add (a := 5 * k) 5]
  · show Lm_digestOfRows_5b I (nn w) 0 x (Lm_digestOfRows_5 I (nn w) 0 x n) J _ (nI m) = _
    unfold Lm_digestOfRows_5b
    rw [nv_0_1, hL.2.1, if_pos (Int32.le_refl _)]
theorem cd_72 {w : Nat → Bool} {I I2 : HI} {J : HJ} {m k : Nat} {p x : Int64} {K : HJ → Int64 → Int32 → Option (HJ × Int64)} (hL : RL m (I 6 1) (I2 0 6) (fun k => I (8 + k)) (I2 5)) (hB : RB I (I2 5) (2 * m)) (hk : k < cnt (fsb (I2 5) true) (2 * m)) : Lm_digestOfRows_72 I (nn w) 0 p K 256 J x (nI k) 0 = K J (dg (fun j => (I (58 + k) j).toInt64) x 4) (nI (k + 1)) := by
  refine up_loop (fun n S y => Lm_digestOfRows_72 I (nn w) 0 p K n J S (nI k) y) (fun j => dg (fun j => (I (58 + k) j).toInt64) x j) _ 4 (fun n j hj => ?_) (fun n => ?_) 256 0 (by decide) (by decide)
  · show Lm_digestOfRows_72b I (nn w) 0 p K (Lm_digestOfRows_72 I (nn w) 0 p K n) J _ (nI k) (nI j) = _
    unfold Lm_digestOfRows_72b
    obtain ⟨_, hb, _⟩ := cbill_s (w := w) hL hB hk hj
    rw [if_neg (show ¬ (4 : Int32) ≤ nI j from nI_ge (a := j) (b := 4) hj (by decide)), hb, bn1_s, bd_e, nI_1]
    rfl
  · show Lm_digestOfRows_72b I (nn w) 0 p K (Lm_digestOfRows_72 I (nn w) 0 p K n) J _ (nI k) (nI 4) = _
    unfold Lm_digestOfRows_72b
    rw [if_pos (by decide), nI_1]
/-- the sum over the bill's rows -/
def dgb4 (I : HI) (x : Int64) : Nat → Int64
  | 0 => x
  | k + 1 => dg (fun j => (I (58 + k) j).toInt64) (dgb4 I x k) 4
theorem cd_57 {w : Nat → Bool} {I I2 : HI} {J : HJ} {m : Nat} {p x : Int64} (hL : RL m (I 6 1) (I2 0 6) (fun k => I (8 + k)) (I2 5)) (hB : RB I (I2 5) (2 * m)) : Lm_digestOfRows_57 I (nn w) 0 p 256 J x 0 = bn1 (Lm_values I (nn w) 0) fun r3 => bn2 (Lm_find I (nn w) 0 J) fun J6 r7 => Lm_digestOfRows_133 I (nn w) 0 p 256 J6 (31 * (31 * dgb4 I x (cnt (fsb (I2 5) true) (2 * m)) + r3.toInt64) + r7.toInt64) 0 := by
  have c6 := cnt_6 (A := I2 5) hL.2.2.2.2.2 (Nat.le_refl (2 * m)) true
  refine up_loop (fun n S y => Lm_digestOfRows_57 I (nn w) 0 p n J S y) (fun k => dgb4 I x k) _ (cnt (fsb (I2 5) true) (2 * m)) (fun n k hk => ?_) (fun n => ?_) 256 0 (by omega) (by omega)
  · show Lm_digestOfRows_57b I (nn w) 0 p (Lm_digestOfRows_57 I (nn w) 0 p n) J _ (nI k) = _
    unfold Lm_digestOfRows_57b
    rw [nv_0_4, hB.1, if_neg (nI_ge hk (by omega)), cd_72 hL hB hk]
    rfl
  · show Lm_digestOfRows_57b I (nn w) 0 p (Lm_digestOfRows_57 I (nn w) 0 p n) J _ (nI (cnt (fsb (I2 5) true) (2 * m))) = _
    unfold Lm_digestOfRows_57b
    rw [nv_0_4, hB.1, if_pos (Int32.le_refl _)]
    rfl
theorem cd_148 {w : Nat → Bool} {I : HI} {J : HJ} {q k : Nat} {p x : Int64} {K : HJ → Int64 → Int32 → Option (HJ × Int64)} (hq : q ≤ 12) (hc : I 64 2 = nI q) (hk : k < q) : Lm_digestOfRows_148 I (nn w) 0 p K 256 J x (nI k) 0 = K J (dg (fun j => (I (66 + k) j).toInt64) x 15) (nI (k + 1)) := by
  refine up_loop (fun n S y => Lm_digestOfRows_148 I (nn w) 0 p K n J S (nI k) y) (fun j => dg (fun j => (I (66 + k) j).toInt64) x j) _ 15 (fun n j hj => ?_) (fun n => ?_) 256 0 (by decide) (by decide)
  · show Lm_digestOfRows_148b I (nn w) 0 p K (Lm_digestOfRows_148 I (nn w) 0 p K n) J _ (nI k) (nI j) = _
    unfold Lm_digestOfRows_148b
    rw [if_neg (n15 hj), Lm_kept_s hq hc hk hj, bn1_s, bd_e, nI_1]
    rfl
  · show Lm_digestOfRows_148b I (nn w) 0 p K (Lm_digestOfRows_148 I (nn w) 0 p K n) J _ (nI k) (nI 15) = _
    unfold Lm_digestOfRows_148b
    rw [if_pos (by decide), nI_1]
def dgm (r : Nat → Nat → Int32) (x : Int64) : Nat → Int64
  | 0 => x
  | k + 1 => dg (fun j => (r k j).toInt64) (dgm r x k) 15
theorem dgm_congr {r s : Nat → Nat → Int32} {x : Int64} : ∀ n, (∀ k, k < n → ∀ j, j < 15 → r k j = s k j) → dgm r x n = dgm s x n
  | 0, _ => rfl
  | n + 1, h => by
    show dg (fun j => (r n j).toInt64) (dgm r x n) 15 = dg (fun j => (s n j).toInt64) (dgm s x n) 15
    rw [dgm_congr n (fun k hk => h k (by omega))]
    exact dg_congr 15 (fun j hj => by rw [h n (by omega) j hj])
theorem cd_133 {w : Nat → Bool} {I : HI} {J : HJ} {q : Nat} {p x : Int64} (hq : q ≤ 12) (hc : I 64 2 = nI q) : Lm_digestOfRows_133 I (nn w) 0 p 256 J x 0 = some (J, dgm (fun k => I (66 + k)) x q) := by
  refine up_loop (fun n S y => Lm_digestOfRows_133 I (nn w) 0 p n J S y) (fun k => dgm (fun k => I (66 + k)) x k) _ q (fun n k hk => ?_) (fun n => ?_) 256 0 (by omega) (by omega)
  · show Lm_digestOfRows_133b I (nn w) 0 p (Lm_digestOfRows_133 I (nn w) 0 p n) J _ (nI k) = _
    unfold Lm_digestOfRows_133b
    rw [nv_0_5, hc, if_neg (nI_ge hk (by omega)), cd_148 hq hc hk]
    rfl
  · show Lm_digestOfRows_133b I (nn w) 0 p (Lm_digestOfRows_133 I (nn w) 0 p n) J _ (nI q) = _
    unfold Lm_digestOfRows_133b
    rw [nv_0_5, hc, if_pos (Int32.le_refl _)]
theorem md_243 {I : HI} {J : HJ} {k : Nat} {x : Int64} {K : HI → HJ → Int64 → Int32 → Option (HI × HJ × Int64)} (hk : k < 12) : Mo_digest_243 N_m 0 K 256 I J x (nI k) 0 = K I J (dg (fun j => (if j = 0 then I 23 k else I 22 (14 * k + (j - 1))).toInt64) x 15) (nI (k + 1)) := by
  refine up_loop (fun n S y => Mo_digest_243 N_m 0 K n I J S (nI k) y) (fun j => dg (fun j => (if j = 0 then I 23 k else I 22 (14 * k + (j - 1))).toInt64) x j) _ 15 (fun n j hj => ?_) (fun n => ?_) 256 0 (by decide) (by decide)
  · show Mo_digest_243b N_m 0 K (Mo_digest_243 N_m 0 K n) I J _ (nI k) (nI j) = _
    unfold Mo_digest_243b
    rw [if_neg (n15 hj), Mo_keptBy_s hk hj, bn1_s, bd_e, nI_1]
    rfl
  · show Mo_digest_243b N_m 0 K (Mo_digest_243 N_m 0 K n) I J _ (nI k) (nI 15) = _
    unfold Mo_digest_243b
    rw [if_pos (by decide), nI_1]
theorem md_232 {I : HI} {J : HJ} {q : Nat} {x : Int64} (hq : q ≤ 12) (hc : I 0 31 = nI q) : Mo_digest_232 N_m 0 256 I J x 0 = some (I, J, dgm (fun k j => if j = 0 then I 23 k else I 22 (14 * k + (j - 1))) x q) := by
  refine up_loop (fun n S y => Mo_digest_232 N_m 0 n I J S y) (fun k => dgm (fun k j => if j = 0 then I 23 k else I 22 (14 * k + (j - 1))) x k) _ q (fun n k hk => ?_) (fun n => ?_) 256 0 (by omega) (by omega)
  · show Mo_digest_232b N_m 0 (Mo_digest_232 N_m 0 n) I J _ (nI k) = _
    unfold Mo_digest_232b
    rw [hc, if_neg (nI_ge hk (by omega)), md_243 (by omega)]
    rfl
  · show Mo_digest_232b N_m 0 (Mo_digest_232 N_m 0 n) I J _ (nI q) = _
    unfold Mo_digest_232b
    rw [hc, if_pos (Int32.le_refl _)]
theorem md_57 {I I2 : HI} {w : Nat → Bool} {m k : Nat} {p x : Int64} {c : Int32} {K : Int64 → Int32 → Int32 → Option Int64} (hL : RL m (I 6 1) (I2 0 6) (fun k => I (8 + k)) (I2 5)) (hB : RB I (I2 5) (2 * m)) (hk : k < cnt (fsb (I2 5) true) (2 * m)) : Mo_ladderTells_57 I2 N_m 0 p K 256 x c (nI k) 0 = K (dg (fun j => (I (58 + k) j).toInt64) x 4) c (nI (k + 1)) := by
  refine up_loop (fun n S y => Mo_ladderTells_57 I2 N_m 0 p K n S c (nI k) y) (fun j => dg (fun j => (I (58 + k) j).toInt64) x j) _ 4 (fun n j hj => ?_) (fun n => ?_) 256 0 (by decide) (by decide)
  · show Mo_ladderTells_57b I2 N_m 0 p K (Mo_ladderTells_57 I2 N_m 0 p K n) _ c (nI k) (nI j) = _
    unfold Mo_ladderTells_57b
    obtain ⟨y, _, h2, h3⟩ := cbill_s (w := w) hL hB hk hj
    rw [if_neg (show ¬ (4 : Int32) ≤ nI j from nI_ge (a := j) (b := 4) hj (by decide)), h2, bn1_s, h3, bn1_s, bd_e, nI_1]
    rfl
  · show Mo_ladderTells_57b I2 N_m 0 p K (Mo_ladderTells_57 I2 N_m 0 p K n) _ c (nI k) (nI 4) = _
    unfold Mo_ladderTells_57b
    rw [if_pos (by decide), nI_1]
theorem md_tells {I I2 : HI} {w : Nat → Bool} {m : Nat} {x : Int64} (hL : RL m (I 6 1) (I2 0 6) (fun k => I (8 + k)) (I2 5)) (hB : RB I (I2 5) (2 * m)) : Mo_ladderTells I2 N_m 0 x = bn1 (Mo_values I2 N_m 0) fun r => some (31 * dgb4 I (dg (fun t => (I2 5 t).toInt64) x (5 * m)) (cnt (fsb (I2 5) true) (2 * m)) + r.toInt64) := by
  obtain ⟨hm, hc, hc2, hrow, ha, hv⟩ := id hL
  have c6 := cnt_6 (A := I2 5) hv (Nat.le_refl (2 * m)) true
  unfold Mo_ladderTells Mo_ladderTells_0
  refine up_loop (fun n S y => Mo_ladderTells_5 I2 N_m 0 x n S y) (fun k => dg (fun t => (I2 5 t).toInt64) x k) _ (5 * m) (fun n k hk => ?_) (fun n => ?_) 256 0 (by omega) (by omega)
  · show Mo_ladderTells_5b I2 N_m 0 x (Mo_ladderTells_5 I2 N_m 0 x n) _ (nI k) = _
    unfold Mo_ladderTells_5b
    rw [hc2, i5', if_neg (nI_ge hk (by omega)), mv_5, gd_of (tm5 (by omega)), bd_e, nI_clamp (by omega), nI_1]
    rfl
  · show Mo_ladderTells_5b I2 N_m 0 x (Mo_ladderTells_5 I2 N_m 0 x n) _ (nI (5 * m)) = _
    unfold Mo_ladderTells_5b
    rw [hc2, i5', if_pos (Int32.le_refl _), show Mo_parts I2 N_m 0 1 = some (nI (cnt (fsb (I2 5) true) (2 * m))) from Mo_parts_s (q := true) hm hc2 ha, bn1_s]
    refine up_loop (fun n S y => Mo_ladderTells_47 I2 N_m 0 x n S (nI (cnt (fsb (I2 5) true) (2 * m))) y) (fun k => dgb4 I (dg (fun t => (I2 5 t).toInt64) x (5 * m)) k) _ (cnt (fsb (I2 5) true) (2 * m)) (fun n k hk => ?_) (fun n => ?_) 256 0 (by omega) (by omega)
    · show Mo_ladderTells_47b I2 N_m 0 x (Mo_ladderTells_47 I2 N_m 0 x n) _ _ (nI k) = _
      unfold Mo_ladderTells_47b
      rw [if_neg (nI_ge hk (by omega)), md_57 (w := w) hL hB hk]
      rfl
    · show Mo_ladderTells_47b I2 N_m 0 x (Mo_ladderTells_47 I2 N_m 0 x n) _ _ (nI (cnt (fsb (I2 5) true) (2 * m))) = _
      unfold Mo_ladderTells_47b
      rw [if_pos (Int32.le_refl _)]
