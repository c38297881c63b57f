/-- the memory of class and reference: q fractions -/
def RM (q : Nat) (c c2 : Int32) (row : Nat → Nat → Int32) (mem tim : Nat → Int32) : Prop := q ≤ 12 ∧ c = nI q ∧ c2 = nI q ∧ ∀ k, k < q → row k 0 = tim k ∧ ∀ j, j < 14 → row k (1 + j) = mem (14 * k + j) ∧ -9 ≤ (mem (14 * k + j)).toInt ∧ (mem (14 * k + j)).toInt ≤ 9
theorem nv65 {R : Type} {w : Nat → Bool} {K : Nat → Option R} {k : Nat} (h : k < 12) : ra Tc nC (nn w 65 k) 1 K = K (66 + k) := by
  rcases (show k = 0 ∨ k = 1 ∨ k = 2 ∨ k = 3 ∨ k = 4 ∨ k = 5 ∨ k = 6 ∨ k = 7 ∨ k = 8 ∨ k = 9 ∨ k = 10 ∨ k = 11 by omega) with rfl | rfl | rfl | rfl | rfl | rfl | rfl | rfl | rfl | rfl | rfl | rfl
  · exact nv_65_0
  · exact nv_65_1
  · exact nv_65_2
  · exact nv_65_3
  · exact nv_65_4
  · exact nv_65_5
  · exact nv_65_6
  · exact nv_65_7
  · exact nv_65_8
  · exact nv_65_9
  · exact nv_65_10
  · exact nv_65_11
theorem l66 : ∀ k, k < 12 → (Tc (66 + k)).2 = 15 := by decide
theorem tc66 {k j : Nat} (h : k < 12) (hj : j < 15) : inb (nI j) (Tc (66 + k)).2 = true := by
  rw [l66 k h]
  exact inb_nI hj (by decide)
theorem tc65 {k : Nat} (h : k < 12) : inb (nI k) (Tc 65).2 = true := inb_nI h (by decide)
theorem inb_q (p : Int32) {q : Nat} (hq : q ≤ 12) : (decide ((0 : Int) ≤ p.toInt ∧ p.toInt ≤ (q : Int) - 1)) = inb p q := by
  by_cases h0 : p < 0
  · have := Int32.lt_iff_toInt_lt.mp h0
    rw [i32_0] at this
    unfold inb
    rw [decide_eq_true h0, decide_eq_false (fun z => by omega)]; rfl
  · obtain ⟨j, hj, rfl⟩ := nI_of h0
    unfold inb
    rw [decide_eq_false h0, nI_toInt hj, nI_clamp hj]
    by_cases h : j < q
    · rw [decide_eq_true h, decide_eq_true ⟨by omega, by omega⟩]; rfl
    · rw [decide_eq_false h, decide_eq_false (fun z => by omega)]; rfl
theorem Mo_in_q (p : Int32) {q : Nat} (hq : q ≤ 12) : Mo_in p.toInt64 0 (nI q - 1).toInt64 = some (b2i (inb p q)) := by
  rw [Mo_in_s, Int32.toInt_toInt64, Int32.toInt_toInt64, sub_toInt (by rw [nI_toInt (by omega), show (1 : Int32).toInt = 1 from rfl]; omega) (by rw [nI_toInt (by omega), show (1 : Int32).toInt = 1 from rfl]; omega), nI_toInt (by omega), show (1 : Int32).toInt = 1 from rfl, show (0 : Int64).toInt = 0 from rfl, inb_q p hq]
theorem Me_holds_s {I : HI} {a q : Nat} (hq : q ≤ 12) (hc : I a 2 = nI q) (p : Int32) : Me_holds I a p = some (b2i (inb p q)) := by
  unfold Me_holds Me_holds_0
  rw [hc]
  by_cases h0 : p < 0
  · rw [if_pos h0]; unfold inb; rw [decide_eq_true h0]; rfl
  · rw [if_neg h0]
    obtain ⟨j, hj, rfl⟩ := nI_of h0
    by_cases h1 : j < q
    · rw [if_neg (nI_ge h1 (by omega)), inb_nI h1 (by omega)]; rfl
    · rw [if_pos (nI_le (by omega) hj)]
      unfold inb
      rw [nI_clamp hj, decide_eq_false h1, Bool.and_false]; rfl
theorem n12 {k : Nat} (h : k < 12) : ¬ (12 : Int32) ≤ nI k := nI_ge (a := k) (b := 12) h (by decide)
theorem n15 {k : Nat} (h : k < 15) : ¬ (15 : Int32) ≤ nI k := nI_ge (a := k) (b := 15) h (by decide)
theorem Me_item_s {w : Nat → Bool} {I : HI} {q k j : Nat} (hq : q ≤ 12) (hc : I 64 2 = nI q) (hk : k < q) (hj : j < 15) : Me_item I (nn w) 64 (nI k) (nI j) = some (I (66 + k) j) := by
  unfold Me_item Me_item_0 Me_item_29
  rw [Me_holds_s hq hc, bn1_s, inb_nI hk (by omega), if_neg b2i_t, if_neg (n12 (by omega)), if_neg (nI_pos (by omega)), if_neg (n15 hj), if_neg (by decide), nv_64_0, gd_of (tc65 (by omega)), nI_clamp (by omega), nv65 (by omega), gd_of (tc66 (by omega) hj), nI_clamp (by omega)]
theorem i14 (s k : Nat) : (14 : Int32) * nI s + nI k = nI (14 * s + k) := by
  rw [show (14 : Int32) = nI 14 from rfl, pk_mul, nI_add]
theorem tm22 {k : Nat} (h : k < 168) : inb (nI k) (Tm 22).2 = true := inb_nI h (by decide)
theorem tm23 {k : Nat} (h : k < 12) : inb (nI k) (Tm 23).2 = true := inb_nI h (by decide)
theorem Mo_keptBy_s {I : HI} {k j : Nat} (hk : k < 12) (hj : j < 15) : Mo_keptBy I N_m 0 (nI k) (nI j) = some (if j = 0 then I 23 k else I 22 (14 * k + (j - 1))) := by
  unfold Mo_keptBy Mo_keptBy_0
  by_cases h : j = 0
  · subst h
    rw [if_pos (by decide), if_pos rfl, mv_30, gd_of (tm23 hk), nI_clamp (by omega)]
  · rw [if_neg (nI_ne0 (by omega) (by omega)), if_neg h, mv_29, i14, show nI (14 * k + j) - 1 = nI (14 * k + (j - 1)) from (pk_sub (a := 14 * k + j) (b := 1) (by omega)).trans (by congr 1; omega), gd_of (tm22 (by omega)), nI_clamp (by omega)]
theorem RM_it {q : Nat} {c c2 : Int32} {row : Nat → Nat → Int32} {mem tim : Nat → Int32} (h : RM q c c2 row mem tim) {k j : Nat} (hk : k < q) (hj : j < 15) : row k j = if j = 0 then tim k else mem (14 * k + (j - 1)) := by
  obtain ⟨h1, h2⟩ := h.2.2.2 k hk
  by_cases e : j = 0
  · subst e; rw [if_pos rfl]; exact h1
  · rw [if_neg e]
    have := (h2 (j - 1) (by omega)).1
    rw [show 1 + (j - 1) = j by omega] at this
    exact this
theorem Lm_kept_s {w : Nat → Bool} {I : HI} {q k j : Nat} (hq : q ≤ 12) (hc : I 64 2 = nI q) (hk : k < q) (hj : j < 15) : Lm_kept I (nn w) 0 (nI k) (nI j) = some (I (66 + k) j) := by
  unfold Lm_kept Lm_kept_0
  rw [nv_0_5, Me_holds_s hq hc, bn1_s, inb_nI hk (by omega), if_neg b2i_t, if_neg (nI_pos (by omega)), if_pos (show nI j < (15 : Int32) from nI_lt (b := 15) hj (by decide)), nv_0_5, Me_item_s hq hc hk hj, bn1_s]
theorem kept_ok {w : Nat → Bool} {I I2 : HI} {q : Nat} (hM : RM q (I 64 2) (I2 0 31) (fun k => I (66 + k)) (I2 22) (I2 23)) (p i : Int32) : ∃ r : Int32, Lm_kept I (nn w) 0 p i = some r ∧ Mo_kept I2 N_m 0 p i = some r := by
  obtain ⟨hq, hc, hc2, -⟩ := id hM
  have m14 : ∀ x : Int32, Mo_in x.toInt64 0 14 = some (b2i (inb x 15)) := fun x => by
    rw [Mo_in_s, Int32.toInt_toInt64, show (0 : Int64).toInt = 0 from rfl, show (14 : Int64).toInt = ((14 : Nat) : Int) from rfl, in_nI (by decide)]
  rcases inb_cases p (n := q) (by omega) with hb | ⟨k, hk, rfl⟩
  · refine ⟨-2147483648, ?_, ?_⟩
    · unfold Lm_kept Lm_kept_0
      rw [nv_0_5, Me_holds_s hq hc, bn1_s, hb, if_pos b2i_f]
    · unfold Mo_kept Mo_kept_0
      rw [hc2, Mo_in_q p hq, bn1_s, hb, if_pos b2i_f]
  · rcases inb_cases i (n := 15) (by decide) with hb | ⟨j, hj, rfl⟩
    · refine ⟨-2147483648, ?_, ?_⟩
      · unfold Lm_kept Lm_kept_0
        rw [nv_0_5, Me_holds_s hq hc, bn1_s, inb_nI hk (by omega), if_neg b2i_t]
        by_cases h0 : i < 0
        · rw [if_pos h0]
        · rw [if_neg h0, if_neg]
          intro h1
          obtain ⟨j, hj, rfl⟩ := nI_of h0
          have : j < 15 := (nI_ltI (b := 15) hj (by decide)).mp h1
          rw [inb_nI this (by decide)] at hb
          cases hb
      · unfold Mo_kept Mo_kept_0
        rw [hc2, Mo_in_q _ hq, bn1_s, inb_nI hk (by omega), if_neg b2i_t, m14, bn1_s, hb, if_pos b2i_f]
    · refine ⟨I (66 + k) j, Lm_kept_s hq hc hk hj, ?_⟩
      unfold Mo_kept Mo_kept_0
      rw [hc2, Mo_in_q _ hq, bn1_s, inb_nI hk (by omega), if_neg b2i_t, m14, bn1_s, inb_nI hj (by decide), if_neg b2i_t, Mo_keptBy_s (by omega) hj, bn1_s]
      exact congrArg some (RM_it hM hk hj).symm
-- how often all of them were kept
def sumk (t : Nat → Int32) : Nat → Int32
  | 0 => 0
  | k + 1 => sumk t k + t k
theorem Me_timesOfAll_s {w : Nat → Bool} {I : HI} {q : Nat} (hq : q ≤ 12) (hc : I 64 2 = nI q) : Me_timesOfAll I (nn w) 64 = some (sumk (fun k => I (66 + k) 0) q) := by
  have key := up_loop (fun n (S : Int32) x => Me_timesOfAll_4 I (nn w) 64 n S x) (fun k => sumk (fun k => I (66 + k) 0) k) (some (sumk (fun k => I (66 + k) 0) q)) q (fun n k hk => ?_) (fun n => ?_) 256 0 (by omega) (by omega)
  · exact key
  · show Me_timesOfAll_4b I (nn w) 64 (Me_timesOfAll_4 I (nn w) 64 n) _ (nI k) = _
    unfold Me_timesOfAll_4b
    rw [hc, if_neg (nI_ge hk (by omega)), show (0 : Int32) = nI 0 from rfl, Me_item_s hq hc hk (by decide), bn1_s, bd_e, nI_1]
    rfl
  · show Me_timesOfAll_4b I (nn w) 64 (Me_timesOfAll_4 I (nn w) 64 n) _ (nI q) = _
    unfold Me_timesOfAll_4b
    rw [hc, if_pos (nI_le (Nat.le_refl q) (by omega))]
theorem Mo_keptAll_s {I : HI} {q : Nat} (hq : q ≤ 12) (hc : I 0 31 = nI q) : Mo_keptAll I N_m 0 = some (sumk (I 23) q) := by
  have key := up_loop (fun n (S : Int32) x => Mo_keptAll_4 I N_m 0 n S x) (fun k => sumk (I 23) k) (some (sumk (I 23) q)) q (fun n k hk => ?_) (fun n => ?_) 256 0 (by omega) (by omega)
  · exact key
  · show Mo_keptAll_4b I N_m 0 (Mo_keptAll_4 I N_m 0 n) _ (nI k) = _
    unfold Mo_keptAll_4b
    rw [hc, if_neg (nI_ge hk (by omega)), mv_30, gd_of (tm23 (by omega)), bd_e, nI_clamp (by omega), nI_1]
    rfl
  · show Mo_keptAll_4b I N_m 0 (Mo_keptAll_4 I N_m 0 n) _ (nI q) = _
    unfold Mo_keptAll_4b
    rw [hc, if_pos (nI_le (Nat.le_refl q) (by omega))]
theorem sumk_congr {s t : Nat → Int32} : ∀ k, (∀ j, j < k → s j = t j) → sumk s k = sumk t k := by
  intro k
  induction k with
  | zero => intro _; rfl
  | succ k ih =>
    intro h
    show sumk s k + s k = sumk t k + t k
    rw [ih (fun j hj => h j (by omega)), h k (Nat.lt_succ_self k)]
-- recall
theorem crecall_l {w : Nat → Bool} {I : HI} {J : HJ} {q k : Nat} (hq : q ≤ 12) (hc : I 64 2 = nI q) (hk : k < q) : Lm_recall_16 I (nn w) 0 (nI k) 256 J 0 = some (rdk J (ab w 1 + 1) (be w 1 + 1) 14 (fun j => (I (66 + k) (1 + j)).toInt64), I (66 + k) 0) := by
  have hne : ab w 1 + 1 ≠ be w 1 + 1 := by rcases ab1 (w := w) with ⟨a, b⟩ | ⟨a, b⟩ <;> omega
  have key := up_loop (fun n J x => Lm_recall_16 I (nn w) 0 (nI k) n J x) (fun m => rdk J (ab w 1 + 1) (be w 1 + 1) m (fun j => (I (66 + k) (1 + j)).toInt64)) (some (rdk J (ab w 1 + 1) (be w 1 + 1) 14 (fun j => (I (66 + k) (1 + j)).toInt64), I (66 + k) 0)) 14 (fun n m hm => ?_) (fun n => ?_) 256 0 (by decide) (by decide)
  · have e0 : rdk J (ab w 1 + 1) (be w 1 + 1) 0 (fun j => (I (66 + k) (1 + j)).toInt64) = J := by
      unfold rdk
      rw [show min 0 7 = 0 from rfl, show 0 - 7 = 0 from rfl, wrk_0, wrk_0, va_up_id, va_up_id]
    rw [e0] at key
    exact key
  · show Lm_recall_16b I (nn w) 0 (nI k) (Lm_recall_16 I (nn w) 0 (nI k) n) _ (nI m) = _
    unfold Lm_recall_16b
    rw [if_neg (n14 hm), nv_0_0, nv_0_5, show (1 : Int32) + nI m = nI (1 + m) from nI_add 1 m, Me_item_s hq hc hk (by omega), bn1_s, nI_1]
    by_cases h7 : m < 7
    · rw [Pa_putNumber_a pa_1 h7, bn1_s]
      congr 1
      unfold rdk
      rw [show min m 7 = m by omega, show min (m + 1) 7 = m + 1 by omega, show m - 7 = 0 by omega, show m + 1 - 7 = 0 by omega, wrk_0, va_up_of hne, va_up_at, va_up_comm (Ne.symm hne), va_up_va, wrk_s (g := fun j => (I (66 + k) (1 + j)).toInt64)]
    · obtain ⟨m', rfl⟩ : ∃ m', m = 7 + m' := ⟨m - 7, by omega⟩
      rw [Pa_putNumber_b pa_1 (by omega), bn1_s]
      congr 1
      unfold rdk
      rw [show min (7 + m') 7 = 7 by omega, show min (7 + m' + 1) 7 = 7 by omega, show 7 + m' - 7 = m' by omega, show 7 + m' + 1 - 7 = m' + 1 by omega, va_up_at, va_up_va, wrk_s (g := fun j => (I (66 + k) (1 + (7 + j))).toInt64)]
  · show Lm_recall_16b I (nn w) 0 (nI k) (Lm_recall_16 I (nn w) 0 (nI k) n) _ (nI 14) = _
    unfold Lm_recall_16b
    rw [if_pos (by decide), nv_0_5, show (0 : Int32) = nI 0 from rfl, Me_item_s hq hc hk (by decide), bn1_s]
theorem mrecall_l {I : HI} {k : Nat} (hk : k < 12) : Mo_recall_21 N_m 0 (nI k) 256 I 0 = some (va_up I 4 (wrk 14 (I 4) (fun j => I 22 (14 * k + j))), I 23 k) := by
  have key := up_loop (fun n I x => Mo_recall_21 N_m 0 (nI k) n I x) (fun m => va_up I 4 (wrk m (I 4) (fun j => I 22 (14 * k + j)))) (some (va_up I 4 (wrk 14 (I 4) (fun j => I 22 (14 * k + j))), I 23 k)) 14 (fun n m hm => ?_) (fun n => ?_) 256 0 (by decide) (by decide)
  · rw [wrk_0, va_up_id] at key
    exact key
  · show Mo_recall_21b N_m 0 (nI k) (Mo_recall_21 N_m 0 (nI k) n) _ (nI m) = _
    unfold Mo_recall_21b
    rw [if_neg (n14 hm), mv_4, mv_29, i14, gd_of (tm22 (by omega)), tm4, gd_of (inb_nI hm (by decide)), bd_e, nI_clamp (by omega), nI_clamp (by omega), va_up_of (show (22 : Nat) ≠ 4 by decide), up2_va, nI_1, ← wrk_s]
  · show Mo_recall_21b N_m 0 (nI k) (Mo_recall_21 N_m 0 (nI k) n) _ (nI 14) = _
    unfold Mo_recall_21b
    rw [if_pos (by decide), mv_30, gd_of (tm23 hk), nI_clamp (by omega), va_up_of (show (23 : Nat) ≠ 4 by decide)]
theorem recall_ok {w : Nat → Bool} {I I2 : HI} {J : HJ} {q : Nat} (hW : RW (J (ab w 1 + 1)) (J (be w 1 + 1)) (I2 4)) (hM : RM q (I 64 2) (I2 0 31) (fun k => I (66 + k)) (I2 22) (I2 23)) (p : Int32) : ∃ (J' : HJ) (I2' : HI) (r : Int32), Lm_recall I (nn w) 0 p J = some (J', r) ∧ Mo_recall N_m 0 p I2 = some (I2', r) ∧ RW (J' (ab w 1 + 1)) (J' (be w 1 + 1)) (I2' 4) ∧ fW J J' I2 I2' := by
  obtain ⟨hq, hc, hc2, hrow⟩ := id hM
  unfold Lm_recall Lm_recall_0 Mo_recall Mo_recall_0
  rw [nv_0_5, Me_holds_s hq hc, bn1_s, hc2, Mo_in_q p hq, bn1_s]
  rcases inb_cases p (n := q) (by omega) with hb | ⟨k, hk, rfl⟩
  · rw [hb, if_pos b2i_f, if_pos b2i_f]
    exact ⟨J, I2, -2, rfl, rfl, hW, fW_rf⟩
  · rw [inb_nI hk (by omega), if_neg b2i_t, if_neg b2i_t, crecall_l hq hc hk, mrecall_l (by omega)]
    obtain ⟨r0, r1⟩ := hrow k hk
    have hne : ab w 1 + 1 ≠ be w 1 + 1 := by rcases ab1 (w := w) with ⟨a, b⟩ | ⟨a, b⟩ <;> omega
    refine ⟨_, _, I (66 + k) 0, rfl, by rw [show I (66 + k) 0 = I2 23 k from r0], ?_, ?_⟩
    · rw [va_up_at]
      unfold rdk
      rw [va_up_of hne, va_up_at, va_up_at]
      refine ⟨fun j hj => ?_, fun j hj => ?_, fun j hj => ?_⟩
      · rw [wrk_lt (by omega), wrk_lt (by omega), show I (66 + k) (1 + j) = I2 22 (14 * k + j) from (r1 j (by omega)).1]
      · rw [wrk_lt (by omega), wrk_lt (by omega)]
        exact congrArg Int32.toInt64 (r1 (7 + j) (by omega)).1
      · rw [wrk_lt hj]
        exact (r1 j hj).2
    · refine ⟨fun x h3 h5 => ?_, fun x hx => va_up_of hx⟩
      unfold rdk
      rw [va_up_of (by rcases ab1 (w := w) with ⟨a, b⟩ | ⟨a, b⟩ <;> omega), va_up_of (by rcases ab1 (w := w) with ⟨a, b⟩ | ⟨a, b⟩ <;> omega)]
