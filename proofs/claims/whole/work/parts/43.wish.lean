theorem b2i_0 {b : Bool} : (b2i b = 0) ↔ b = false := by cases b <;> decide
theorem i32_0 : (0 : Int32).toInt = 0 := rfl
theorem Lm_isPlace_s (p : Int32) : Lm_isPlace p = some (b2i (decide (p = 0 ∨ p = 1))) := by
  unfold Lm_isPlace Lm_isPlace_0
  by_cases h0 : p = 0
  · rw [if_pos h0, decide_eq_true (Or.inl h0)]; rfl
  · rw [if_neg h0]
    by_cases h1 : p = 1
    · rw [if_pos h1, decide_eq_true (Or.inr h1)]; rfl
    · rw [if_neg h1, decide_eq_false (fun q => q.elim h0 h1)]; rfl
theorem Lm_isPower_s (p : Int32) : Lm_isPower p = some (b2i (inb p 7)) := by
  unfold Lm_isPower Lm_isPower_0
  by_cases h0 : p < 0
  · rw [if_pos h0]; unfold inb; rw [decide_eq_true h0]; rfl
  · rw [if_neg h0]
    by_cases h1 : (7 : Int32) ≤ p
    · rw [if_pos h1]
      obtain ⟨j, hj, rfl⟩ := nI_of h0
      have : ¬ j < 7 := fun q => n7 q h1
      unfold inb
      rw [nI_clamp hj, decide_eq_false this, Bool.and_false]; rfl
    · rw [if_neg h1, ix7 h0 h1]; rfl
theorem Mo_in_s (x lo hi : Int64) : Mo_in x lo hi = some (b2i (decide (lo.toInt ≤ x.toInt ∧ x.toInt ≤ hi.toInt))) := by
  unfold Mo_in Mo_in_0
  by_cases h0 : x < lo
  · rw [if_pos h0, decide_eq_false (fun q => by have := Int64.lt_iff_toInt_lt.mp h0; omega)]; rfl
  · rw [if_neg h0]
    have h0' : ¬ x.toInt < lo.toInt := fun q => h0 (Int64.lt_iff_toInt_lt.mpr q)
    by_cases h1 : hi < x
    · rw [if_pos h1, decide_eq_false (fun q => by have := Int64.lt_iff_toInt_lt.mp h1; omega)]; rfl
    · rw [if_neg h1]
      have h1' : ¬ hi.toInt < x.toInt := fun q => h1 (Int64.lt_iff_toInt_lt.mpr q)
      rw [decide_eq_true ⟨by omega, by omega⟩]; rfl
theorem isB_b (b : Bool) : isB (b2i b) = true := by cases b <;> rfl
theorem in_nI {p : Int32} {m : Nat} (hm : m < 2 ^ 31) : decide ((0 : Int) ≤ p.toInt ∧ p.toInt ≤ ((m : Nat) : Int)) = inb p (m + 1) := by
  by_cases h0 : p < 0
  · have := Int32.lt_iff_toInt_lt.mp h0
    rw [i32_0] at this
    unfold inb
    rw [decide_eq_true h0, decide_eq_false (fun q => by omega)]; rfl
  · obtain ⟨j, hj, rfl⟩ := nI_of h0
    unfold inb
    rw [decide_eq_false h0, nI_toInt hj, nI_clamp hj]
    by_cases h : j < m + 1
    · rw [decide_eq_true h, decide_eq_true ⟨by omega, by omega⟩]; rfl
    · rw [decide_eq_false h, decide_eq_false (fun q => by omega)]; rfl
theorem Mo_in_6 (p : Int32) : Mo_in p.toInt64 0 6 = some (b2i (inb p 7)) := by
  rw [Mo_in_s, Int32.toInt_toInt64, show (0 : Int64).toInt = 0 from rfl, show (6 : Int64).toInt = ((6 : Nat) : Int) from rfl, in_nI (by decide)]
theorem two_in (p : Int32) : inb p 2 = decide (p = 0 ∨ p = 1) := by
  by_cases h0 : p < 0
  · unfold inb
    have hn : ¬ (p = 0 ∨ p = 1) := by
      intro q
      rcases q with e | e
      · rw [e] at h0; exact absurd h0 (by decide)
      · rw [e] at h0; exact absurd h0 (by decide)
    rw [decide_eq_true h0, decide_eq_false hn]; rfl
  · obtain ⟨j, hj, rfl⟩ := nI_of h0
    unfold inb
    rw [decide_eq_false h0, nI_clamp hj]
    have e0 : (nI j = 0) ↔ j = 0 := nI_eq (b := 0) hj (by decide)
    have e1 : (nI j = 1) ↔ j = 1 := nI_eq (b := 1) hj (by decide)
    by_cases h : j < 2
    · rw [decide_eq_true h, decide_eq_true (by rw [e0, e1]; omega)]; rfl
    · rw [decide_eq_false h, decide_eq_false (by rw [e0, e1]; omega)]; rfl
theorem Mo_isTwo_s (p : Int32) : Mo_isTwo p = some (b2i (decide (p = 0 ∨ p = 1))) := by
  unfold Mo_isTwo Mo_isTwo_0
  rw [Mo_in_s, Int32.toInt_toInt64, show (0 : Int64).toInt = 0 from rfl, show (1 : Int64).toInt = ((1 : Nat) : Int) from rfl, in_nI (by decide), bn1_s, gd_of (isB_b _), two_in]
/-- a number of the wish -/
def wn (x : Int64) : Bool := decide (-9 ≤ x.toInt ∧ x.toInt ≤ 9)
theorem Lm_isWishNumber_s (x : Int64) : Lm_isWishNumber x = some (b2i (wn x)) := by
  have h := Mo_in_s x (-9) 9
  rw [show (-9 : Int64).toInt = -9 from rfl, show (9 : Int64).toInt = 9 from rfl] at h
  exact h
theorem Mo_in_9 (x : Int64) : Mo_in x (-9) 9 = some (b2i (wn x)) := Lm_isWishNumber_s x
-- pairs
theorem Pa_side_0s {p : Nat} {w : Nat → Bool} (h : isPa p) : Pa_side (nn w) p 0 = some (ab w p) := by
  unfold Pa_side Pa_side_0
  rw [if_pos rfl, pa_0 h]
theorem Pa_side_1s {p : Nat} {w : Nat → Bool} {x : Int32} (h : isPa p) (hx : ¬ x = 0) : Pa_side (nn w) p x = some (be w p) := by
  unfold Pa_side Pa_side_0
  rw [if_neg hx, pa_1' h]
theorem Pa_swap_s {p : Nat} {w : Nat → Bool} (h : isPa p) : Pa_swap p (nn w) = some (nn (va_up w p (!(w p)))) := by
  unfold Pa_swap Pa_swap_0
  rw [pa_0 h, pa_1' h, bd_e, bd_e, h.2.2.2.2.2.2]
theorem ab_swap {w : Nat → Bool} {p : Nat} : ab (va_up w p (!(w p))) p = be w p := by
  unfold ab be
  rw [va_up_at]
  cases w p <;> rfl
theorem be_swap {w : Nat → Bool} {p : Nat} : be (va_up w p (!(w p))) p = ab w p := by
  unfold ab be
  rw [va_up_at]
  cases w p <;> rfl
theorem ab_of {w : Nat → Bool} {p q : Nat} {b : Bool} (h : p ≠ q) : ab (va_up w q b) p = ab w p := by
  unfold ab
  rw [va_up_of h]
theorem be_of {w : Nat → Bool} {p q : Nat} {b : Bool} (h : p ≠ q) : be (va_up w q b) p = be w p := by
  unfold be
  rw [va_up_of h]
theorem ab_be {w : Nat → Bool} {p : Nat} : ab w p = p + 1 ∧ be w p = p + 3 ∨ ab w p = p + 3 ∧ be w p = p + 1 := by
  unfold ab be
  cases w p
  · exact Or.inl ⟨rfl, rfl⟩
  · exact Or.inr ⟨rfl, rfl⟩
theorem po_dec {a : Nat} (h : isPo a) : decide (a < nC ∧ Tc a = (0, 6)) = true := decide_eq_true ⟨by have := h.2.2.1; omega, h.1⟩
theorem ev_b {b : Bool} {R : Type} {x y : R} : (if b2i b = 0 then x else y) = if b = true then y else x := by cases b <;> rfl
def ev (z : Nat → Bool) : Bool := !(z 0 && z 2 && z 4 && z 6)
def od (z : Nat → Bool) : Bool := !(z 1 && z 3 && z 5)
theorem pev_e (z : Nat → Bool) : pev z = (ev z && !(od z)) := by
  unfold pev ev od
  cases z 0 <;> cases z 1 <;> cases z 2 <;> cases z 3 <;> cases z 4 <;> cases z 5 <;> cases z 6 <;> rfl
theorem pod_e (z : Nat → Bool) : pod z = (od z && !(ev z)) := by
  unfold pod ev od
  cases z 0 <;> cases z 1 <;> cases z 2 <;> cases z 3 <;> cases z 4 <;> cases z 5 <;> cases z 6 <;> rfl
/-- lawful: one has even powers alone, the other odd ones -/
def lawf (za zb : Nat → Bool) : Bool := (pev za && pod zb) || (pod za && pev zb)
theorem Pa_isLawful_s {p : Nat} {w : Nat → Bool} {J : HJ} (h : isPa p) : Pa_isLawful J (nn w) p = some (b2i (lawf (zl (J (ab w p + 1))) (zl (J (be w p + 1))))) := by
  unfold Pa_isLawful Pa_isLawful_0 Pa_isLawful_22 lawf
  rw [pa_0 h, pa_0 h, Po_isOfParity_0s (isPa_ab h w), Po_isOfParity_1s (isPa_ab h w), bn1_s, bn1_s, pa_1' h, pa_1' h, Po_isOfParity_0s (isPa_be h w), Po_isOfParity_1s (isPa_be h w), bn1_s, bn1_s]
  simp only [ev_b]
  cases pev (zl (J (ab w p + 1))) <;> cases pod (zl (J (ab w p + 1))) <;> cases pev (zl (J (be w p + 1))) <;> cases pod (zl (J (be w p + 1))) <;> rfl
theorem Pa_greaterDegree_s {p : Nat} {w : Nat → Bool} {J : HJ} (h : isPa p) : Pa_greaterDegree J (nn w) p = some (if dgb 7 (zl (J (ab w p + 1))) < dgb 7 (zl (J (be w p + 1))) then dgb 7 (zl (J (be w p + 1))) else dgb 7 (zl (J (ab w p + 1)))) := by
  unfold Pa_greaterDegree Pa_greaterDegree_0
  rw [pa_0 h, Po_degree_s (isPa_ab h w), bn1_s, pa_1' h, Po_degree_s (isPa_be h w), bn1_s]
-- the reference's wish: row 4 of its ints
def zi (v : Nat → Int32) (p k : Nat) : Bool := decide (v (7 * p + k) = 0)
theorem zi_t {v : Nat → Int32} {p k : Nat} (h : v (7 * p + k) = 0) : zi v p k = true := decide_eq_true h
theorem zi_f {v : Nat → Int32} {p k : Nat} (h : ¬ v (7 * p + k) = 0) : ¬ zi v p k = true := fun q => h (of_decide_eq_true q)
theorem i7 (p k : Nat) : (7 : Int32) * nI p + nI k = nI (7 * p + k) := by
  rw [show (7 : Int32) = nI 7 from rfl, pk_mul, nI_add]
theorem tm4 : (Tm 4).2 = 14 := rfl
theorem Mo_degree_l {I : HI} {p : Nat} (hp : p < 2) : ∀ m k n, m + k = 7 → m < n → Mo_degree_4 I N_m 0 (nI p) n (dgb k (zi (I 4) p)) (nI k) = some (dgb 7 (zi (I 4) p)) := by
  intro m
  induction m with
  | zero =>
    intro k n h1 h2
    obtain ⟨n, rfl⟩ : ∃ j, n = j + 1 := ⟨n - 1, by omega⟩
    have : k = 7 := by omega
    subst this
    show Mo_degree_4b I N_m 0 (nI p) (Mo_degree_4 I N_m 0 (nI p) n) _ _ = _
    unfold Mo_degree_4b
    rw [if_pos (by decide)]
  | succ m ih =>
    intro k n h1 h2
    obtain ⟨n, rfl⟩ : ∃ j, n = j + 1 := ⟨n - 1, by omega⟩
    show Mo_degree_4b I N_m 0 (nI p) (Mo_degree_4 I N_m 0 (nI p) n) _ _ = _
    unfold Mo_degree_4b Mo_degree_29
    rw [if_neg (n7 (by omega)), mv_4, i7, tm4, gd_of (inb_nI (by omega) (by decide)), nI_clamp (by omega), nI_1]
    have hd : dgb (k + 1) (zi (I 4) p) = if zi (I 4) p k = true then dgb k (zi (I 4) p) else nI k := rfl
    by_cases hz : I 4 (7 * p + k) = 0
    · rw [if_pos hz, ← ih (k + 1) n (by omega) (by omega), hd, if_pos (zi_t hz)]
    · rw [if_neg hz, ← ih (k + 1) n (by omega) (by omega), hd, if_neg (zi_f hz)]
theorem Mo_degree_s {I : HI} {p : Nat} (hp : p < 2) : Mo_degree I N_m 0 (nI p) = some (dgb 7 (zi (I 4) p)) := Mo_degree_l hp 7 0 256 (by decide) (by decide)
theorem Mo_lowest_l {I : HI} {p : Nat} (hp : p < 2) : ∀ k n, k ≤ 7 → k < n → Mo_lowest_5 I N_m 0 (nI p) n (lwb (7 - k) k (zi (I 4) p)) (nI k + (-1)) = some (lwb 7 0 (zi (I 4) p)) := by
  intro k
  induction k with
  | zero =>
    intro n h1 h2
    obtain ⟨n, rfl⟩ : ∃ j, n = j + 1 := ⟨n - 1, by omega⟩
    show Mo_lowest_5b I N_m 0 (nI p) (Mo_lowest_5 I N_m 0 (nI p) n) _ _ = _
    unfold Mo_lowest_5b
    rw [if_pos (by decide)]
  | succ k ih =>
    intro n h1 h2
    obtain ⟨n, rfl⟩ : ∃ j, n = j + 1 := ⟨n - 1, by omega⟩
    rw [pk_m1]
    show Mo_lowest_5b I N_m 0 (nI p) (Mo_lowest_5 I N_m 0 (nI p) n) _ _ = _
    unfold Mo_lowest_5b Mo_lowest_28
    rw [if_neg (nI_pos (by omega)), mv_4, i7, tm4, gd_of (inb_nI (by omega) (by decide)), nI_clamp (by omega)]
    have hd : lwb (7 - k) k (zi (I 4) p) = if zi (I 4) p k = true then lwb (7 - (k + 1)) (k + 1) (zi (I 4) p) else nI k := by
      rw [show 7 - k = (7 - (k + 1)) + 1 by omega]
      rfl
    by_cases hz : I 4 (7 * p + k) = 0
    · rw [if_pos hz, ← ih n (by omega) (by omega), hd, if_pos (zi_t hz)]
    · rw [if_neg hz, ← ih n (by omega) (by omega), hd, if_neg (zi_f hz)]
theorem Mo_lowest_s {I : HI} {p : Nat} (hp : p < 2) : Mo_lowest I N_m 0 (nI p) = some (lwb 7 0 (zi (I 4) p)) := Mo_lowest_l hp 7 256 (by decide) (by decide)
def evk (z : Nat → Bool) : Nat → Bool
  | 0 => false
  | k + 1 => evk z k || (!(z k) && decide (k % 2 = 0))
def odk (z : Nat → Bool) : Nat → Bool
  | 0 => false
  | k + 1 => odk z k || (!(z k) && decide (k % 2 = 1))
def srt (e o : Bool) : Int32 := if e = o then 2 else if e = true then 0 else 1
theorem b2i_e {a b : Bool} : (b2i a = b2i b) ↔ a = b := by cases a <;> cases b <;> decide
theorem Mo_sort_l {I : HI} {p : Nat} (hp : p < 2) : ∀ m k n, m + k = 7 → m < n → Mo_sort_7 I N_m 0 (nI p) n (b2i (evk (zi (I 4) p) k)) (b2i (odk (zi (I 4) p) k)) (nI k) = some (srt (evk (zi (I 4) p) 7) (odk (zi (I 4) p) 7)) := by
  intro m
  induction m with
  | zero =>
    intro k n h1 h2
    obtain ⟨n, rfl⟩ : ∃ j, n = j + 1 := ⟨n - 1, by omega⟩
    have : k = 7 := by omega
    subst this
    show Mo_sort_7b I N_m 0 (nI p) (Mo_sort_7 I N_m 0 (nI p) n) _ _ _ = _
    unfold Mo_sort_7b srt
    rw [if_pos (by decide)]
    cases evk (zi (I 4) p) 7 <;> cases odk (zi (I 4) p) 7 <;> rfl
  | succ m ih =>
    intro k n h1 h2
    obtain ⟨n, rfl⟩ : ∃ j, n = j + 1 := ⟨n - 1, by omega⟩
    show Mo_sort_7b I N_m 0 (nI p) (Mo_sort_7 I N_m 0 (nI p) n) _ _ _ = _
    rw [← ih (k + 1) n (by omega) (by omega)]
    have he : evk (zi (I 4) p) (k + 1) = (evk (zi (I 4) p) k || (!(zi (I 4) p k) && decide (k % 2 = 0))) := rfl
    have ho : odk (zi (I 4) p) (k + 1) = (odk (zi (I 4) p) k || (!(zi (I 4) p k) && decide (k % 2 = 1))) := rfl
    rw [he, ho]
    unfold Mo_sort_7b Mo_sort_44 Mo_sort_40 Mo_sort_45 Mo_sort_77 Mo_sort_73 Mo_sort_78
    simp only [mv_4, i7, tm4, inb_nI (show 7 * p + k < 14 by omega) (by decide), gd_t, nI_clamp (show 7 * p + k < 2 ^ 31 by omega), nI_1, show (2 : Int32) = nI 2 from rfl, pk_rem (show k < 2 ^ 31 by omega) (show 0 < 2 by decide) (show 2 < 2 ^ 31 by decide)]
    rw [if_neg (n7 (show k < 7 by omega))]
    have hm : (nI (k % 2) = 0) ↔ k % 2 = 0 := nI_eq (b := 0) (by omega) (by decide)
    have hm1 : (nI (k % 2) = 1) ↔ k % 2 = 1 := nI_eq (b := 1) (by omega) (by decide)
    have hz : (I 4 (7 * p + k) = 0) ↔ zi (I 4) p k = true := by unfold zi; rw [decide_eq_true_iff]
    simp only [hm, hm1, hz, ev_b]
    rcases (show k % 2 = 0 ∨ k % 2 = 1 by omega) with h | h <;> rw [h] <;> cases evk (zi (I 4) p) k <;> cases odk (zi (I 4) p) k <;> cases zi (I 4) p k <;> rfl
theorem evk_7 (z : Nat → Bool) : evk z 7 = ev z := by
  simp only [evk, ev]
  cases z 0 <;> cases z 1 <;> cases z 2 <;> cases z 3 <;> cases z 4 <;> cases z 5 <;> cases z 6 <;> rfl
theorem odk_7 (z : Nat → Bool) : odk z 7 = od z := by
  simp only [odk, od]
  cases z 0 <;> cases z 1 <;> cases z 2 <;> cases z 3 <;> cases z 4 <;> cases z 5 <;> cases z 6 <;> rfl
theorem Mo_sort_s {I : HI} {p : Nat} (hp : p < 2) : Mo_sort I N_m 0 (nI p) = some (srt (ev (zi (I 4) p)) (od (zi (I 4) p))) := by
  have := Mo_sort_l (I := I) hp 7 0 256 (by decide) (by decide)
  rw [evk_7, odk_7] at this
  exact this
theorem Mo_isLawful_s {I : HI} : Mo_isLawful I N_m 0 = some (b2i (lawf (zi (I 4) 0) (zi (I 4) 1))) := by
  unfold Mo_isLawful Mo_isLawful_0 lawf
  rw [show (0 : Int32) = nI 0 from rfl, show (1 : Int32) = nI 1 from rfl, Mo_sort_s (by decide), Mo_sort_s (by decide), bn1_s, bn1_s, pev_e, pod_e, pev_e, pod_e]
  cases ev (zi (I 4) 0) <;> cases od (zi (I 4) 0) <;> cases ev (zi (I 4) 1) <;> cases od (zi (I 4) 1) <;> rfl
/-- the wish of class and reference -/
def RW (A B : Nat → Int64) (v : Nat → Int32) : Prop := (∀ k, k < 7 → A k = (v k).toInt64) ∧ (∀ k, k < 7 → B k = (v (7 + k)).toInt64) ∧ ∀ k, k < 14 → -9 ≤ (v k).toInt ∧ (v k).toInt ≤ 9
theorem i64_0 {x : Int32} : (x.toInt64 = 0) ↔ x = 0 := by
  constructor
  · intro h
    apply Int32.toInt_inj.mp
    have := congrArg Int64.toInt h
    rw [Int32.toInt_toInt64] at this
    exact this
  · intro h; rw [h]; rfl
theorem RW_za {A B : Nat → Int64} {v : Nat → Int32} (h : RW A B v) {k : Nat} (hk : k < 7) : zl A k = zi v 0 k := by
  unfold zl zi
  rw [h.1 k hk, show 7 * 0 + k = k by omega]
  exact decide_eq_decide.mpr i64_0
theorem RW_zb {A B : Nat → Int64} {v : Nat → Int32} (h : RW A B v) {k : Nat} (hk : k < 7) : zl B k = zi v 1 k := by
  unfold zl zi
  rw [h.2.1 k hk, show 7 * 1 + k = 7 + k by omega]
  exact decide_eq_decide.mpr i64_0
theorem dgb_congr {z z' : Nat → Bool} : ∀ k, (∀ j, j < k → z j = z' j) → dgb k z = dgb k z' := by
  intro k
  induction k with
  | zero => intro _; rfl
  | succ k ih =>
    intro h
    show (if z k = true then dgb k z else nI k) = (if z' k = true then dgb k z' else nI k)
    rw [h k (Nat.lt_succ_self k), ih (fun j hj => h j (Nat.lt_succ_of_lt hj))]
theorem lwb_congr {z z' : Nat → Bool} : ∀ m k, (∀ j, j < m + k → z j = z' j) → lwb m k z = lwb m k z' := by
  intro m
  induction m with
  | zero => intro k _; rfl
  | succ m ih =>
    intro k h
    show (if z k = true then lwb m (k + 1) z else nI k) = (if z' k = true then lwb m (k + 1) z' else nI k)
    rw [h k (by omega), ih (k + 1) (fun j hj => h j (by omega))]
theorem lawf_congr {z z' y y' : Nat → Bool} (h : ∀ j, j < 7 → z j = z' j) (h2 : ∀ j, j < 7 → y j = y' j) : lawf z y = lawf z' y' := by
  unfold lawf pev pod
  simp only [h 0 (by decide), h 1 (by decide), h 2 (by decide), h 3 (by decide), h 4 (by decide), h 5 (by decide), h 6 (by decide), h2 0 (by decide), h2 1 (by decide), h2 2 (by decide), h2 3 (by decide), h2 4 (by decide), h2 5 (by decide), h2 6 (by decide)]
