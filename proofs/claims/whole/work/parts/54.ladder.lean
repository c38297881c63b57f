/-- a ladder of the class: its arms' rows stand behind it -/
def isLa (L : Nat) : Prop := (∀ w, nn w L 0 = some (L + 1)) ∧ L + 8 ≤ nC ∧ Tc (L + 1) = (3, 6) ∧ (∀ k, k < 6 → Tc (L + 2 + k) = (1, 5)) ∧ ∀ w k, k < 6 → nn w (L + 1) k = some (L + 2 + k)
theorem la_6 : isLa 6 := by
  refine ⟨fun w => rfl, by decide, rfl, fun k hk => ?_, fun w k hk => ?_⟩
  · rcases (show k = 0 ∨ k = 1 ∨ k = 2 ∨ k = 3 ∨ k = 4 ∨ k = 5 by omega) with rfl | rfl | rfl | rfl | rfl | rfl <;> rfl
  · rcases (show k = 0 ∨ k = 1 ∨ k = 2 ∨ k = 3 ∨ k = 4 ∨ k = 5 by omega) with rfl | rfl | rfl | rfl | rfl | rfl <;> rfl
theorem la_31 : isLa 31 := by
  refine ⟨fun w => rfl, by decide, rfl, fun k hk => ?_, fun w k hk => ?_⟩
  · rcases (show k = 0 ∨ k = 1 ∨ k = 2 ∨ k = 3 ∨ k = 4 ∨ k = 5 by omega) with rfl | rfl | rfl | rfl | rfl | rfl <;> rfl
  · rcases (show k = 0 ∨ k = 1 ∨ k = 2 ∨ k = 3 ∨ k = 4 ∨ k = 5 by omega) with rfl | rfl | rfl | rfl | rfl | rfl <;> rfl
theorem la_0 {R : Type} {L : Nat} {w : Nat → Bool} {K : Nat → Option R} (h : isLa L) : ra Tc nC (nn w L 0) 3 K = K (L + 1) := ra_of (h.1 w) (by have := h.2.1; omega) (by rw [h.2.2.1])
theorem la_1 {R : Type} {L k : Nat} {w : Nat → Bool} {K : Nat → Option R} (h : isLa L) (hk : k < 6) : ra Tc nC (nn w (L + 1) k) 1 K = K (L + 2 + k) := ra_of (h.2.2.2.2 w k hk) (by have := h.2.1; omega) (by rw [h.2.2.2.1 k hk])
theorem la_i {L k : Nat} (h : isLa L) (hk : k < 6) : inb (nI k) (Tc (L + 1)).2 = true := by rw [h.2.2.1]; exact inb_nI hk (by decide)
theorem la_j {L k j : Nat} (h : isLa L) (hk : k < 6) (hj : j < 5) : inb (nI j) (Tc (L + 2 + k)).2 = true := by rw [h.2.2.2.1 k hk]; exact inb_nI hj (by decide)
theorem la_c0 {L k : Nat} (h : isLa L) (hk : k < 6) : inb (0 : Int32) (Tc (L + 2 + k)).2 = true := la_j (j := 0) h hk (by decide)
theorem la_c1 {L k : Nat} (h : isLa L) (hk : k < 6) : inb (1 : Int32) (Tc (L + 2 + k)).2 = true := la_j (j := 1) h hk (by decide)
theorem la_c2 {L k : Nat} (h : isLa L) (hk : k < 6) : inb (2 : Int32) (Tc (L + 2 + k)).2 = true := la_j (j := 2) h hk (by decide)
theorem la_c3 {L k : Nat} (h : isLa L) (hk : k < 6) : inb (3 : Int32) (Tc (L + 2 + k)).2 = true := la_j (j := 3) h hk (by decide)
theorem la_c4 {L k : Nat} (h : isLa L) (hk : k < 6) : inb (4 : Int32) (Tc (L + 2 + k)).2 = true := la_j (j := 4) h hk (by decide)
theorem n6 {k : Nat} (h : k < 6) : ¬ (6 : Int32) ≤ nI k := nI_ge (a := k) (b := 6) h (by decide)
theorem n5 {k : Nat} (h : k < 5) : ¬ (5 : Int32) ≤ nI k := nI_ge (a := k) (b := 5) h (by decide)
theorem La_item_s {L : Nat} {w : Nat → Bool} {I : HI} {m k j : Nat} (h : isLa L) (hm : m ≤ 6) (hc : I L 1 = nI m) (hk : k < m) (hj : j < 5) : La_item I (nn w) L (nI k) (nI j) = some (I (L + 2 + k) j) := by
  unfold La_item La_item_0 La_item_32
  rw [if_neg (nI_pos (by omega)), hc, if_neg (nI_ge hk (by omega)), if_neg (n6 (by omega)), if_neg (nI_pos (by omega)), if_neg (n5 hj), if_neg (by decide), la_0 h, gd_of (la_i h (by omega)), nI_clamp (by omega), la_1 h (by omega), gd_of (la_j h (by omega) hj), nI_clamp (by omega)]
/-- a value of an arm -/
def vok (u d : Int32) : Prop := u = 0 ∧ d = 0 ∨ (1 ≤ u.toInt ∧ u.toInt ≤ 99) ∧ 1 ≤ d.toInt ∧ d.toInt ≤ 99
def aok (A : Nat → Int32) (k : Nat) : Prop := (A (5 * k) = 0 ∨ A (5 * k) = 1) ∧ vok (A (5 * k + 1)) (A (5 * k + 2)) ∧ vok (A (5 * k + 3)) (A (5 * k + 4)) ∧ ¬ (A (5 * k + 1) = 0 ∧ A (5 * k + 3) = 0)
def v1 (x : Int32) : Nat := if x = 0 then 0 else 1
def vc (A : Nat → Int32) : Nat → Nat
  | 0 => 0
  | k + 1 => vc A k + (v1 (A (5 * k + 1)) + v1 (A (5 * k + 3)))
/-- the arms of class and reference: m of them -/
def RL (m : Nat) (c c2 : Int32) (row : Nat → Nat → Int32) (A : Nat → Int32) : Prop := m ≤ 6 ∧ c = nI m ∧ c2 = nI m ∧ (∀ k, k < m → ∀ j, j < 5 → row k j = A (5 * k + j)) ∧ (∀ k, k < m → aok A k) ∧ vc A m ≤ 6
theorem v1_1 (x : Int32) : v1 x ≤ 1 := by unfold v1; split <;> omega
theorem vc_ge {A : Nat → Int32} : ∀ m, (∀ k, k < m → aok A k) → m ≤ vc A m
  | 0, _ => Nat.le_refl 0
  | m + 1, h => by
    have h1 := vc_ge m (fun k hk => h k (by omega))
    have h2 := (h m (by omega)).2.2.2
    show m + 1 ≤ vc A m + (v1 (A (5 * m + 1)) + v1 (A (5 * m + 3)))
    unfold v1
    split
    · split
      · rename_i e1 e2; exact absurd ⟨e1, e2⟩ h2
      · omega
    · omega
theorem vc_12 {A : Nat → Int32} : ∀ m, vc A m ≤ 2 * m
  | 0 => Nat.le_refl 0
  | m + 1 => by
    have h1 := vc_12 (A := A) m
    have h2 := v1_1 (A (5 * m + 1))
    have h3 := v1_1 (A (5 * m + 3))
    show vc A m + (v1 (A (5 * m + 1)) + v1 (A (5 * m + 3))) ≤ _
    omega
theorem vc_congr {A B : Nat → Int32} : ∀ m, (∀ j, j < 5 * m → A j = B j) → vc A m = vc B m
  | 0, _ => rfl
  | m + 1, h => by
    show vc A m + (v1 (A (5 * m + 1)) + v1 (A (5 * m + 3))) = vc B m + (v1 (B (5 * m + 1)) + v1 (B (5 * m + 3)))
    rw [vc_congr m (fun j hj => h j (by omega)), h _ (by omega), h _ (by omega)]
theorem aok_congr {A B : Nat → Int32} {k : Nat} (h : ∀ j, j < 5 → A (5 * k + j) = B (5 * k + j)) (hA : aok A k) : aok B k := by
  unfold aok at hA ⊢
  rw [← h 1 (by omega), ← h 2 (by omega), ← h 3 (by omega), ← h 4 (by omega), show B (5 * k) = A (5 * k) from (h 0 (by omega)).symm]
  exact hA
theorem v1_c {x : Int32} : nI (v1 x) = if x = 0 then 0 else 1 := by unfold v1; split <;> rfl
theorem v1_le {u d : Int32} (h : vok u d) : nI (v1 u) = if u ≤ 0 then 0 else 1 := by
  rw [v1_c]
  rcases h with ⟨rfl, _⟩ | ⟨⟨h, _⟩, _⟩
  · rfl
  · rw [if_neg, if_neg]
    · intro q; rw [Int32.le_iff_toInt_le, i32_0] at q; omega
    · rintro rfl; rw [i32_0] at h; omega
theorem La_valueCount_s {L : Nat} {w : Nat → Bool} {I : HI} {A : Nat → Int32} {m : Nat} (h : isLa L) (hm : m ≤ 6) (hc : I L 1 = nI m) (hr : ∀ k, k < m → ∀ j, j < 5 → I (L + 2 + k) j = A (5 * k + j)) : La_valueCount I (nn w) L = some (nI (vc A m)) := by
  unfold La_valueCount La_valueCount_0
  refine up_loop (fun n S y => La_valueCount_4 I (nn w) L n S y) (fun k => nI (vc A k)) _ m (fun n k hk => ?_) (fun n => ?_) 256 0 (by omega) (by omega)
  · show La_valueCount_4b I (nn w) L (La_valueCount_4 I (nn w) L n) _ (nI k) = _
    unfold La_valueCount_4b
    have e1 : I (L + 2 + k) (1 : Int32).toNatClampNeg = A (5 * k + 1) := hr k hk 1 (by decide)
    have e3 : I (L + 2 + k) (3 : Int32).toNatClampNeg = A (5 * k + 3) := hr k hk 3 (by decide)
    have last : ∀ a, La_valueCount_35 I (nn w) L (La_valueCount_4 I (nn w) L n) (nI k) (nI (vc A k)) (nI a) = La_valueCount_4 I (nn w) L n (nI (vc A k + (a + v1 (A (5 * k + 3))))) (nI (k + 1)) := by
      intro a
      unfold La_valueCount_35
      rw [la_0 h, gd_of (la_i h (by omega)), nI_clamp (by omega), la_1 h (by omega), gd_of (la_c3 h (show k < 6 by omega)), e3]
      unfold La_valueCount_51 v1
      split
      · rw [bd_e, show nI k + 1 = nI (k + 1) from nI_add k 1]
        exact congrFun (congrArg (La_valueCount_4 I (nn w) L n) ((congrArg (nI (vc A k) + ·) (nI_add a 0)).trans (nI_add _ _))) _
      · rw [bd_e, show nI k + 1 = nI (k + 1) from nI_add k 1]
        exact congrFun (congrArg (La_valueCount_4 I (nn w) L n) ((congrArg (nI (vc A k) + ·) (nI_add a 1)).trans (nI_add _ _))) _
    rw [hc, if_neg (nI_ge hk (by omega)), if_neg (n6 (by omega)), la_0 h, gd_of (la_i h (by omega)), nI_clamp (by omega), la_1 h (by omega), gd_of (la_c1 h (show k < 6 by omega)), e1]
    show _ = La_valueCount_4 I (nn w) L n (nI (vc A k + (v1 (A (5 * k + 1)) + v1 (A (5 * k + 3))))) (nI (k + 1))
    rw [← last]
    unfold v1
    split
    · rfl
    · rfl
  · show La_valueCount_4b I (nn w) L (La_valueCount_4 I (nn w) L n) _ (nI m) = _
    unfold La_valueCount_4b
    rw [hc, if_pos (Int32.le_refl _)]
theorem i5 (k j : Nat) : (5 : Int32) * nI k + nI j = nI (5 * k + j) := by
  rw [show (5 : Int32) = nI 5 from rfl, pk_mul, nI_add]
theorem i5' (k : Nat) : (5 : Int32) * nI k = nI (5 * k) := by
  rw [show (5 : Int32) = nI 5 from rfl, pk_mul]
theorem Mo_valuesIn_s {b : Nat} {I : HI} {m : Nat} (hb : 5 * m ≤ (Tm b).2) (hb2 : (Tm b).2 < 2 ^ 31) (hm : m ≤ 8) (ha : ∀ k, k < m → aok (I b) k) : Mo_valuesIn I b (nI m) = some (nI (vc (I b) m)) := by
  unfold Mo_valuesIn Mo_valuesIn_0
  refine up_loop (fun n S y => Mo_valuesIn_4 I b (nI m) n S y) (fun k => nI (vc (I b) k)) _ m (fun n k hk => ?_) (fun n => ?_) 256 0 (by omega) (by omega)
  · show Mo_valuesIn_4b I b (nI m) (Mo_valuesIn_4 I b (nI m) n) _ (nI k) = _
    unfold Mo_valuesIn_4b
    have last : ∀ a, Mo_valuesIn_25 I b (nI m) (Mo_valuesIn_4 I b (nI m) n) (nI k) (nI (vc (I b) k)) (nI a) = Mo_valuesIn_4 I b (nI m) n (nI (vc (I b) k + (a + v1 (I b (5 * k + 3))))) (nI (k + 1)) := by
      intro a
      unfold Mo_valuesIn_25
      rw [show (5 : Int32) * nI k + 3 = nI (5 * k + 3) from i5 k 3, gd_of (inb_nI (by omega) hb2), nI_clamp (by omega), ← nI_add (vc (I b) k), ← nI_add a, v1_le (ha k hk).2.2.1]
      unfold Mo_valuesIn_40
      split <;> rw [bd_e, show nI k + 1 = nI (k + 1) from nI_add k 1] <;> rfl
    rw [if_neg (nI_ge hk (by omega)), show (5 : Int32) * nI k + 1 = nI (5 * k + 1) from i5 k 1, gd_of (inb_nI (by omega) hb2), nI_clamp (by omega)]
    show _ = Mo_valuesIn_4 I b (nI m) n (nI (vc (I b) k + (v1 (I b (5 * k + 1)) + v1 (I b (5 * k + 3))))) (nI (k + 1))
    rw [← last, v1_le (ha k hk).2.1]
    split <;> rfl
  · show Mo_valuesIn_4b I b (nI m) (Mo_valuesIn_4 I b (nI m) n) _ (nI m) = _
    unfold Mo_valuesIn_4b
    rw [if_pos (Int32.le_refl _)]
theorem Mo_in_4s (p : Int32) : Mo_in p.toInt64 0 4 = some (b2i (inb p 5)) := by
  rw [Mo_in_s, Int32.toInt_toInt64, show (0 : Int64).toInt = 0 from rfl, show (4 : Int64).toInt = ((4 : Nat) : Int) from rfl, in_nI (by decide)]
theorem tm5 {k : Nat} (h : k < 30) : inb (nI k) (Tm 5).2 = true := inb_nI h (by decide)
theorem inb_no {p : Int32} {q : Nat} (hq : q < 2 ^ 31) (h : inb p q = false) : p < 0 ∨ nI q ≤ p := by
  by_cases h0 : p < 0
  · exact Or.inl h0
  · refine Or.inr (Int32.le_iff_toInt_le.mpr ?_)
    rw [nI_toInt hq]
    rw [Int32.lt_iff_toInt_lt, i32_0] at h0
    by_cases h1 : p.toInt < q
    · exfalso
      have e : p = nI p.toInt.toNat := by
        apply Int32.toInt_inj.mp
        rw [nI_toInt (by omega)]
        omega
      rw [e, inb_nI (by omega) hq] at h
      exact Bool.noConfusion h
    · omega
theorem element_ok {w : Nat → Bool} {I I2 : HI} {m : Nat} (hL : RL m (I 6 1) (I2 0 6) (fun k => I (8 + k)) (I2 5)) (p i : Int32) : ∃ r : Int32, Lm_element I (nn w) 0 p i = some r ∧ Mo_element I2 N_m 0 p i = some r := by
  obtain ⟨hm, hc, hc2, hrow, -, -⟩ := hL
  unfold Lm_element Lm_element_0 Mo_element Mo_element_0
  rw [hc2, Mo_in_q p (by omega), bn1_s, Mo_in_4s, bn1_s, nv_0_1, hc]
  cases hb : inb p m with
  | false =>
    rw [if_pos b2i_f]
    refine ⟨-2, ?_, rfl⟩
    rcases inb_no (by omega) hb with h | h
    · rw [if_pos h]
    · by_cases h0 : p < 0
      · rw [if_pos h0]
      · rw [if_neg h0, if_pos h]
  | true =>
    rcases inb_cases p (n := m) (by omega) with hb' | ⟨k, hk, rfl⟩
    · rw [hb] at hb'; exact Bool.noConfusion hb'
    rw [if_neg b2i_t, if_neg (nI_pos (by omega)), if_neg (nI_ge hk (by omega))]
    cases hb2 : inb i 5 with
    | false =>
      rw [if_pos b2i_f]
      refine ⟨-2, ?_, rfl⟩
      rcases inb_no (by decide) hb2 with h | h
      · rw [if_pos h]
      · by_cases h0 : i < 0
        · rw [if_pos h0]
        · rw [if_neg h0, if_neg (show ¬ i < (5 : Int32) from Int32.not_lt.mpr h)]
    | true =>
      rcases inb_cases i (n := 5) (by decide) with hb' | ⟨j, hj, rfl⟩
      · rw [hb2] at hb'; exact Bool.noConfusion hb'
      rw [if_neg b2i_t, if_neg (nI_pos (by omega)), if_pos (show nI j < (5 : Int32) from nI_lt (b := 5) hj (by decide)), nv_0_1, La_item_s la_6 hm hc hk hj, bn1_s, mv_5, i5, gd_of (tm5 (by omega)), nI_clamp (by omega)]
      exact ⟨_, rfl, congrArg some (hrow k hk j hj).symm⟩
