/-- what divides the first k numbers -/
def gcf : Nat → (Nat → Int64) → Nat
  | 0, _ => 0
  | k + 1, x => Nat.gcd (gcf k x) (x k).toInt.natAbs
theorem gcf_dvd {x : Nat → Int64} {d : Nat} : ∀ k, d ∣ gcf k x ↔ ∀ j, j < k → d ∣ (x j).toInt.natAbs := by
  intro k
  induction k with
  | zero => exact ⟨fun _ j h => absurd h (Nat.not_lt_zero j), fun _ => Nat.dvd_zero d⟩
  | succ k ih =>
    show d ∣ Nat.gcd (gcf k x) (x k).toInt.natAbs ↔ _
    rw [Nat.dvd_gcd_iff, ih]
    constructor
    · rintro ⟨h1, h2⟩ j hj
      by_cases e : j = k
      · subst e; exact h2
      · exact h1 j (by omega)
    · intro h
      exact ⟨fun j hj => h j (by omega), h k (Nat.lt_succ_self k)⟩
theorem gcf_lt {x : Nat → Int64} : ∀ k, (∀ j, j < k → nm (x j)) → gcf k x < 2 ^ 63 := by
  intro k
  induction k with
  | zero => intro _; show 0 < 2 ^ 63; decide
  | succ k ih =>
    intro h
    show Nat.gcd (gcf k x) (x k).toInt.natAbs < 2 ^ 63
    have h1 := ih (fun j hj => h j (by omega))
    have h2 := abs_lt (h k (Nat.lt_succ_self k))
    by_cases e : gcf k x = 0
    · rw [e, Nat.gcd_zero_left]; exact h2
    · exact Nat.lt_of_le_of_lt (Nat.gcd_le_left _ (Nat.pos_of_ne_zero e)) h1
theorem gcf_one {x : Nat → Int64} : ∀ m k, gcf k x = 1 → gcf (k + m) x = 1 := by
  intro m
  induction m with
  | zero => intro k h; exact h
  | succ m ih =>
    intro k h
    show Nat.gcd (gcf (k + m) x) _ = 1
    rw [ih k h, Nat.gcd_one_left]
theorem lN_abs {g : Nat} (h : g < 2 ^ 63) : (lN g).toInt.natAbs = g := by rw [pk_lT h]; rfl
theorem lN_nm {g : Nat} (h : g < 2 ^ 63) : nm (lN g) := by
  unfold nm
  rw [pk_lT h]
  omega
theorem gl_lN {g : Nat} {y : Int64} (h : g < 2 ^ 63) : gl (lN g) y = lN (Nat.gcd g y.toInt.natAbs) := by
  unfold gl
  rw [lN_abs h]
/-- both polynomials as one row of fourteen -/
def num (A B : Nat → Int64) : Nat → Int64 := fun k => if k < 7 then A k else B (k - 7)
/-- the number of the greatest power that isn't 0, else 0 -/
def ldv : Nat → (Nat → Int64) → Int64
  | 0, _ => 0
  | k + 1, f => if f k = 0 then ldv k f else f k
theorem ldv_pat {f : Nat → Int64} : pat f (dgb 7 (zl f)) = ldv 7 f ∧ (dgb 7 (zl f) = -1 ↔ ldv 7 f = 0) := by
  have gen : ∀ k, k ≤ 7 → pat f (dgb k (zl f)) = ldv k f ∧ (dgb k (zl f) = -1 ↔ ldv k f = 0) := by
    intro k
    induction k with
    | zero => intro _; exact ⟨rfl, ⟨fun _ => rfl, fun _ => rfl⟩⟩
    | succ k ih =>
      intro hk
      have hd : dgb (k + 1) (zl f) = if zl f k = true then dgb k (zl f) else nI k := rfl
      have hl : ldv (k + 1) f = if f k = 0 then ldv k f else f k := rfl
      by_cases h : f k = 0
      · rw [hd, hl, if_pos (zl_t h), if_pos h]; exact ih (by omega)
      · rw [hd, hl, if_neg (zl_f h), if_neg h, pat_nI (by omega)]
        refine ⟨rfl, ⟨fun q => ?_, fun q => absurd q h⟩⟩
        exfalso
        have := congrArg Int32.toInt q
        rw [nI_toInt (by omega), show (-1 : Int32).toInt = -1 from rfl] at this
        omega
  exact gen 7 (Nat.le_refl 7)
/-- the number whose sign decides, and by what both are divided -/
def lead (A B : Nat → Int64) : Int64 := if ldv 7 B = 0 then ldv 7 A else ldv 7 B
def dvs (A B : Nat → Int64) : Int64 := if lead A B < 0 then -(lN (gcf 14 (num A B))) else lN (gcf 14 (num A B))
def nrm (d : Int64) (f : Nat → Int64) : Nat → Int64 := fun k => if d = 0 then f k else f k / d
def nms (f : Nat → Int64) : Prop := ∀ k, k < 7 → nm (f k)
theorem num_nm {A B : Nat → Int64} (hA : nms A) (hB : nms B) : ∀ j, j < 14 → nm (num A B j) := by
  intro j hj
  unfold num
  by_cases h : j < 7
  · rw [if_pos h]; exact hA j h
  · rw [if_neg h]; exact hB _ (by omega)
theorem Pa_number_s {p k : Nat} {w : Nat → Bool} {J : HJ} (h : isPa p) (hk : k < 14) : Pa_number J (nn w) p (nI k) = some (num (J (ab w p + 1)) (J (be w p + 1)) k) := by
  unfold Pa_number Pa_number_0 num
  by_cases h7 : k < 7
  · rw [if_neg (n7 h7), if_pos h7, pa_0 h, Po_at_s (isPa_ab h w), bn1_s, pat_nI h7]
  · obtain ⟨j, rfl⟩ : ∃ j, k = 7 + j := ⟨k - 7, by omega⟩
    rw [if_pos (show (7 : Int32) ≤ nI (7 + j) from nI_le (a := 7) (by omega) (by omega)), if_neg h7, pa_1' h, show nI (7 + j) - 7 = nI j from (pk_sub (a := 7 + j) (b := 7) (by omega)).trans (by congr 1; omega), Po_at_s (isPa_be h w), bn1_s, pat_nI (by omega), show 7 + j - 7 = j by omega]
theorem lN_1' {g : Nat} (h : g < 2 ^ 63) : lN g = 1 ↔ g = 1 := pk_lEQ (b := 1) h (by decide)
theorem asp_l {p : Nat} {w : Nat → Bool} {J : HJ} (h : isPa p) (hA : nms (J (ab w p + 1))) (hB : nms (J (be w p + 1))) : ∀ m k n, m + k = 14 → m < n → Pa_becomeAsPair_4 (nn w) p n J (lN (gcf k (num (J (ab w p + 1)) (J (be w p + 1))))) (nI k) = Pa_becomeAsPair_32 (nn w) p J (lN (gcf 14 (num (J (ab w p + 1)) (J (be w p + 1))))) := by
  have hx := num_nm hA hB
  intro m
  induction m with
  | zero =>
    intro k n h1 h2
    obtain ⟨n, rfl⟩ : ∃ j, n = j + 1 := ⟨n - 1, by omega⟩
    have : k = 14 := by omega
    subst this
    show Pa_becomeAsPair_4b (nn w) p (Pa_becomeAsPair_4 (nn w) p n) J _ _ = _
    unfold Pa_becomeAsPair_4b
    rw [if_pos (by decide)]
  | succ m ih =>
    intro k n h1 h2
    obtain ⟨n, rfl⟩ : ∃ j, n = j + 1 := ⟨n - 1, by omega⟩
    have hg := gcf_lt k (fun j hj => hx j (by omega))
    show Pa_becomeAsPair_4b (nn w) p (Pa_becomeAsPair_4 (nn w) p n) J _ _ = _
    unfold Pa_becomeAsPair_4b
    rw [if_neg (n14 (by omega))]
    by_cases e : gcf k (num (J (ab w p + 1)) (J (be w p + 1))) = 1
    · have e14 := gcf_one (m + 1) k e
      rw [show k + (m + 1) = 14 by omega] at e14
      rw [if_pos ((lN_1' hg).mpr e), e14, e]
    · rw [if_neg (fun q => e ((lN_1' hg).mp q)), Pa_number_s h (by omega), bn1_s, Lm_commonDivisor_s (lN_nm hg) (hx k (by omega)), bn1_s, gl_lN hg, nI_1]
      exact ih (k + 1) n (by omega) (by omega)
theorem div_one' (x : Int64) : x / 1 = x := by simp
theorem wrk_id {α : Type} {k : Nat} {f g : Nat → α} (h : ∀ j, j < k → g j = f j) : wrk k f g = f := by
  funext j
  unfold wrk
  by_cases hj : j < k
  · rw [if_pos hj]; exact h j hj
  · rw [if_neg hj]
theorem asp_82 {p : Nat} {w : Nat → Bool} {J : HJ} {d : Int64} (h : isPa p) : Pa_becomeAsPair_82 (nn w) p J d = some (va_up (va_up J (ab w p + 1) (wrk 7 (J (ab w p + 1)) (nrm d (J (ab w p + 1))))) (be w p + 1) (wrk 7 (J (be w p + 1)) (nrm d (J (be w p + 1))))) := by
  have hne : be w p + 1 ≠ ab w p + 1 := by rcases ab_be (w := w) (p := p) with ⟨a, b⟩ | ⟨a, b⟩ <;> omega
  unfold Pa_becomeAsPair_82
  by_cases h1 : d = 1
  · rw [if_pos h1]
    subst h1
    have e : ∀ f : Nat → Int64, wrk 7 f (nrm 1 f) = f := fun f => wrk_id (fun j _ => by unfold nrm; rw [if_neg (by decide), div_one'])
    rw [e, e, va_up_id, va_up_id]
  · rw [if_neg h1, pa_0 h, Po_divideBy_s (isPa_ab h w), bn1_s, pa_1' h, Po_divideBy_s (isPa_be h w), bn1_s]
    by_cases h0 : d = 0
    · subst h0
      have e : ∀ f : Nat → Int64, wrk 7 f (nrm 0 f) = f := fun f => wrk_id (fun j _ => by unfold nrm; rw [if_pos rfl])
      rw [if_pos rfl, if_pos rfl, e, e, va_up_id, va_up_id]
    · rw [if_neg h0, if_neg h0, va_up_of hne]
      have e : ∀ f : Nat → Int64, nrm d f = fun i => f i / d := fun f => by funext j; unfold nrm; rw [if_neg h0]
      rw [e, e]
theorem Pa_becomeAsPair_s {p : Nat} {w : Nat → Bool} {J : HJ} (h : isPa p) (hA : nms (J (ab w p + 1))) (hB : nms (J (be w p + 1))) : Pa_becomeAsPair (nn w) p J = some (va_up (va_up J (ab w p + 1) (wrk 7 (J (ab w p + 1)) (nrm (dvs (J (ab w p + 1)) (J (be w p + 1))) (J (ab w p + 1))))) (be w p + 1) (wrk 7 (J (be w p + 1)) (nrm (dvs (J (ab w p + 1)) (J (be w p + 1))) (J (be w p + 1))))) := by
  have key := asp_l h hA hB 14 0 256 (by decide) (by decide)
  unfold Pa_becomeAsPair Pa_becomeAsPair_0
  refine Eq.trans key ?_
  unfold Pa_becomeAsPair_32
  have hb := ldv_pat (f := J (be w p + 1))
  have ha := ldv_pat (f := J (ab w p + 1))
  have e70 : ∀ x : Int64, Pa_becomeAsPair_70 (nn w) p J (lN (gcf 14 (num (J (ab w p + 1)) (J (be w p + 1))))) x = Pa_becomeAsPair_82 (nn w) p J (if x < 0 then -(lN (gcf 14 (num (J (ab w p + 1)) (J (be w p + 1))))) else lN (gcf 14 (num (J (ab w p + 1)) (J (be w p + 1))))) := by
    intro x
    unfold Pa_becomeAsPair_70
    by_cases hx : x < 0
    · rw [if_pos hx, if_neg (fun q => by have a := Int64.lt_iff_toInt_lt.mp hx; have b := Int64.le_iff_toInt_le.mp q; omega)]
    · rw [if_neg hx, if_pos (Int64.le_iff_toInt_le.mpr (by have : ¬ x.toInt < (0 : Int64).toInt := fun q => hx (Int64.lt_iff_toInt_lt.mpr q); omega))]
  rw [pa_1' h, Po_degree_s (isPa_be h w), bn1_s]
  unfold dvs lead
  by_cases hz : ldv 7 (J (be w p + 1)) = 0
  · rw [if_pos (hb.2.mpr hz), pa_0 h, pa_0 h, Po_degree_s (isPa_ab h w), bn1_s, Po_at_s (isPa_ab h w), bn1_s, ha.1, e70, asp_82 h, if_pos hz]
  · rw [if_neg (fun q => hz (hb.2.mp q)), pa_1' h, Po_at_s (isPa_be h w), bn1_s, hb.1, e70, asp_82 h, if_neg hz]
-- the reference
def gmf : Nat → (Nat → Int64) → (Nat → Int64) → Nat
  | 0, _, _ => 0
  | k + 1, a, b => Nat.gcd (Nat.gcd (gmf k a b) (a k).toInt.natAbs) (b k).toInt.natAbs
theorem gmf_dvd {a b : Nat → Int64} {d : Nat} : ∀ k, d ∣ gmf k a b ↔ ∀ j, j < k → d ∣ (a j).toInt.natAbs ∧ d ∣ (b j).toInt.natAbs := by
  intro k
  induction k with
  | zero => exact ⟨fun _ j h => absurd h (Nat.not_lt_zero j), fun _ => Nat.dvd_zero d⟩
  | succ k ih =>
    show d ∣ Nat.gcd (Nat.gcd (gmf k a b) (a k).toInt.natAbs) (b k).toInt.natAbs ↔ _
    rw [Nat.dvd_gcd_iff, Nat.dvd_gcd_iff, ih]
    constructor
    · rintro ⟨⟨h1, h2⟩, h3⟩ j hj
      by_cases e : j = k
      · subst e; exact ⟨h2, h3⟩
      · exact h1 j (by omega)
    · intro h
      exact ⟨⟨fun j hj => h j (by omega), (h k (Nat.lt_succ_self k)).1⟩, (h k (Nat.lt_succ_self k)).2⟩
/-- numbers from 7 on are 0 -/
def z7 (a : Nat → Int64) : Prop := ∀ k, 7 ≤ k → k < 14 → a k = 0
theorem gmf_gcf {a b : Nat → Int64} (ha : z7 a) (hb : z7 b) : gmf 14 a b = gcf 14 (num a b) := by
  have key : ∀ d, d ∣ gmf 14 a b ↔ d ∣ gcf 14 (num a b) := by
    intro d
    rw [gmf_dvd, gcf_dvd]
    constructor
    · intro h j hj
      unfold num
      by_cases h7 : j < 7
      · rw [if_pos h7]; exact (h j hj).1
      · rw [if_neg h7]; exact (h (j - 7) (by omega)).2
    · intro h j hj
      by_cases h7 : j < 7
      · have h1 := h j hj
        have h2 := h (7 + j) (by omega)
        unfold num at h1 h2
        rw [if_pos h7] at h1
        rw [if_neg (by omega), show 7 + j - 7 = j by omega] at h2
        exact ⟨h1, h2⟩
      · rw [ha j (by omega) hj, hb j (by omega) hj]
        exact ⟨Nat.dvd_zero d, Nat.dvd_zero d⟩
  exact Nat.dvd_antisymm ((key _).mp (Nat.dvd_refl _)) ((key _).mpr (Nat.dvd_refl _))
theorem gmf_lt {a b : Nat → Int64} : ∀ k, (∀ j, j < k → nm (a j) ∧ nm (b j)) → gmf k a b < 2 ^ 63 := by
  intro k
  induction k with
  | zero => intro _; show 0 < 2 ^ 63; decide
  | succ k ih =>
    intro h
    show Nat.gcd (Nat.gcd (gmf k a b) (a k).toInt.natAbs) (b k).toInt.natAbs < 2 ^ 63
    have h1 := ih (fun j hj => h j (by omega))
    obtain ⟨h2, h3⟩ := h k (Nat.lt_succ_self k)
    have h2 := abs_lt h2
    have h3 := abs_lt h3
    have h4 : Nat.gcd (gmf k a b) (a k).toInt.natAbs < 2 ^ 63 := by
      by_cases e : gmf k a b = 0
      · rw [e, Nat.gcd_zero_left]; exact h2
      · exact Nat.lt_of_le_of_lt (Nat.gcd_le_left _ (Nat.pos_of_ne_zero e)) h1
    by_cases e : Nat.gcd (gmf k a b) (a k).toInt.natAbs = 0
    · rw [e, Nat.gcd_zero_left]; exact h3
    · exact Nat.lt_of_le_of_lt (Nat.gcd_le_left _ (Nat.pos_of_ne_zero e)) h4
theorem tm16 {k : Nat} (h : k < 14) : inb (nI k) (Tm 16).2 = true := inb_nI h (by decide)
theorem tm17 {k : Nat} (h : k < 14) : inb (nI k) (Tm 17).2 = true := inb_nI h (by decide)
theorem masp_1 {J : HJ} (hnm : ∀ j, j < 14 → nm (J 16 j) ∧ nm (J 17 j)) : ∀ m k n, m + k = 14 → m < n → Mo_asPair_7 N_m 0 n J (lN (gmf k (J 16) (J 17))) (ldv k (J 17)) (nI k) = Mo_asPair_71 N_m 0 256 J (lN (gmf 14 (J 16) (J 17))) (ldv 14 (J 17)) 0 := by
  intro m
  induction m with
  | zero =>
    intro k n h1 h2
    obtain ⟨n, rfl⟩ : ∃ j, n = j + 1 := ⟨n - 1, by omega⟩
    have : k = 14 := by omega
    subst this
    show Mo_asPair_7b N_m 0 (Mo_asPair_7 N_m 0 n) J _ _ _ = _
    unfold Mo_asPair_7b
    rw [if_pos (by decide)]
  | succ m ih =>
    intro k n h1 h2
    obtain ⟨n, rfl⟩ : ∃ j, n = j + 1 := ⟨n - 1, by omega⟩
    have hg := gmf_lt k (fun j hj => hnm j (by omega))
    obtain ⟨ha, hb⟩ := hnm k (by omega)
    have hg2 : Nat.gcd (gmf k (J 16) (J 17)) (J 16 k).toInt.natAbs < 2 ^ 63 := by
      by_cases e : gmf k (J 16) (J 17) = 0
      · rw [e, Nat.gcd_zero_left]; exact abs_lt ha
      · exact Nat.lt_of_le_of_lt (Nat.gcd_le_left _ (Nat.pos_of_ne_zero e)) hg
    show Mo_asPair_7b N_m 0 (Mo_asPair_7 N_m 0 n) J _ _ _ = _
    unfold Mo_asPair_7b Mo_asPair_61
    rw [if_neg (n14 (by omega)), mv_23, gd_of (tm16 (by omega)), nI_clamp (by omega), Mo_divisor_s (lN_nm hg) ha, bn1_s, mv_24, gd_of (tm17 (by omega)), gl_lN hg, Mo_divisor_s (lN_nm hg2) hb, bn1_s, gl_lN hg2, mv_24, gd_of (tm17 (by omega)), mv_24, gd_of (tm17 (by omega)), nI_1, ← ih (k + 1) n (by omega) (by omega)]
    show _ = Mo_asPair_7 N_m 0 n J _ (if J 17 k = 0 then ldv k (J 17) else J 17 k) _
    by_cases e : J 17 k = 0
    · rw [if_pos e, if_pos e]; rfl
    · rw [if_neg e, if_neg e]; rfl
theorem masp_2 {J : HJ} {g : Int64} : ∀ k n, k ≤ 14 → k < n → Mo_asPair_71 N_m 0 n J g 0 (nI (14 - k)) = Mo_asPair_101 N_m 0 J g (ldv k (J 16)) ∧ ∀ x : Int64, ¬ x = 0 → Mo_asPair_71 N_m 0 n J g x (nI (14 - k)) = Mo_asPair_101 N_m 0 J g x := by
  intro k
  induction k with
  | zero =>
    intro n h1 h2
    obtain ⟨n, rfl⟩ : ∃ j, n = j + 1 := ⟨n - 1, by omega⟩
    constructor
    · show Mo_asPair_71b N_m 0 (Mo_asPair_71 N_m 0 n) J g 0 _ = _
      unfold Mo_asPair_71b
      rw [if_pos (by decide)]
      rfl
    · intro x hx
      show Mo_asPair_71b N_m 0 (Mo_asPair_71 N_m 0 n) J g x _ = _
      unfold Mo_asPair_71b
      rw [if_pos (by decide)]
  | succ k ih =>
    intro n h1 h2
    obtain ⟨n, rfl⟩ : ∃ j, n = j + 1 := ⟨n - 1, by omega⟩
    have e13 : (13 : Int32) - nI (14 - (k + 1)) = nI k := by
      rw [show (13 : Int32) = nI 13 from rfl, pk_sub (by omega)]
      congr 1
      omega
    constructor
    · show Mo_asPair_71b N_m 0 (Mo_asPair_71 N_m 0 n) J g 0 _ = _
      unfold Mo_asPair_71b
      rw [if_neg (n14 (by omega)), if_pos rfl, mv_23, e13, gd_of (tm16 (by omega)), bd_e, nI_clamp (by omega), nI_1, show 14 - (k + 1) + 1 = 14 - k by omega]
      obtain ⟨i1, i2⟩ := ih n (by omega) (by omega)
      have hl : ldv (k + 1) (J 16) = if J 16 k = 0 then ldv k (J 16) else J 16 k := rfl
      by_cases e : J 16 k = 0
      · rw [hl, if_pos e, e]; exact i1
      · rw [hl, if_neg e]; exact i2 _ e
    · intro x hx
      show Mo_asPair_71b N_m 0 (Mo_asPair_71 N_m 0 n) J g x _ = _
      unfold Mo_asPair_71b
      rw [if_neg (n14 (by omega)), if_neg hx]
theorem up2_skip {α : Type} {f : Nat → Nat → α} {a b k : Nat} {F G : Nat → α} {v : α} (h : a ≠ b) : up2 (va_up (va_up f a F) b G) a k v = va_up (va_up f a (va_up F k v)) b G := by
  rw [up2_eq, va_up_of h, va_up_at, va_up_comm (Ne.symm h), va_up_va]
theorem masp_3 {J : HJ} {d : Int64} : Mo_asPair_118 N_m 0 256 J d 0 = some (va_up (va_up J 16 (wrk 14 (J 16) (nrm d (J 16)))) 17 (wrk 14 (J 17) (nrm d (J 17)))) := by
  by_cases hd : d = 0
  · subst hd
    show Mo_asPair_118b N_m 0 (Mo_asPair_118 N_m 0 255) J 0 0 = _
    unfold Mo_asPair_118b
    have e : ∀ f : Nat → Int64, wrk 14 f (nrm 0 f) = f := fun f => wrk_id (fun j _ => by unfold nrm; rw [if_pos rfl])
    rw [if_neg (by decide), if_pos rfl, e, e, va_up_id, va_up_id]
  · have e : ∀ f : Nat → Int64, nrm d f = fun i => f i / d := fun f => by funext j; unfold nrm; rw [if_neg hd]
    have key := up_loop (fun n J x => Mo_asPair_118 N_m 0 n J d x) (fun k => va_up (va_up J 16 (wrk k (J 16) (nrm d (J 16)))) 17 (wrk k (J 17) (nrm d (J 17)))) (some (va_up (va_up J 16 (wrk 14 (J 16) (nrm d (J 16)))) 17 (wrk 14 (J 17) (nrm d (J 17))))) 14 (fun n k hk => ?_) (fun n => ?_) 256 0 (by decide) (by decide)
    · rw [wrk_0, wrk_0, va_up_id, va_up_id] at key
      exact key
    · show Mo_asPair_118b N_m 0 (Mo_asPair_118 N_m 0 n) _ d (nI k) = _
      unfold Mo_asPair_118b
      rw [if_neg (n14 hk), if_neg hd, mv_23, gd_of (tm16 hk), gd_of (decide_eq_true hd), gd_of (tm16 hk), bd_e, mv_24, gd_of (tm17 hk), gd_of (decide_eq_true hd), gd_of (tm17 hk), bd_e, nI_clamp (by omega), va_up_of (show (16 : Nat) ≠ 17 by decide), va_up_at, wrk_ge (Nat.le_refl k), up2_skip (show (16 : Nat) ≠ 17 by decide), up2_va, va_up_at, wrk_ge (Nat.le_refl k), nI_1]
      have s1 : va_up (wrk k (J 16) (nrm d (J 16))) k (J 16 k / d) = wrk (k + 1) (J 16) (nrm d (J 16)) := by
        rw [← wrk_s, e]
      have s2 : va_up (wrk k (J 17) (nrm d (J 17))) k (J 17 k / d) = wrk (k + 1) (J 17) (nrm d (J 17)) := by
        rw [← wrk_s, e]
      rw [s1, s2]
    · show Mo_asPair_118b N_m 0 (Mo_asPair_118 N_m 0 n) _ d (nI 14) = _
      unfold Mo_asPair_118b
      rw [if_pos (by decide)]
theorem ldv_z7 {a : Nat → Int64} (h : z7 a) : ldv 14 a = ldv 7 a := by
  have gen : ∀ m, m ≤ 7 → ldv (7 + m) a = ldv 7 a := by
    intro m
    induction m with
    | zero => intro _; rfl
    | succ m ih =>
      intro hm
      show (if a (7 + m) = 0 then ldv (7 + m) a else a (7 + m)) = _
      rw [if_pos (h (7 + m) (by omega) (by omega))]
      exact ih (by omega)
  exact gen 7 (Nat.le_refl 7)
theorem Mo_asPair_s {J : HJ} (hA : nms (J 16)) (hB : nms (J 17)) (za : z7 (J 16)) (zb : z7 (J 17)) : Mo_asPair N_m 0 J = some (va_up (va_up J 16 (wrk 14 (J 16) (nrm (dvs (J 16) (J 17)) (J 16)))) 17 (wrk 14 (J 17) (nrm (dvs (J 16) (J 17)) (J 17)))) := by
  have hn0 : nm 0 := by unfold nm; decide
  have hnm : ∀ j, j < 14 → nm (J 16 j) ∧ nm (J 17 j) := by
    intro j hj
    by_cases h7 : j < 7
    · exact ⟨hA j h7, hB j h7⟩
    · rw [za j (by omega) hj, zb j (by omega) hj]; exact ⟨hn0, hn0⟩
  have key := masp_1 hnm 14 0 256 (by decide) (by decide)
  have e101 : ∀ x : Int64, Mo_asPair_101 N_m 0 J (lN (gcf 14 (num (J 16) (J 17)))) x = Mo_asPair_118 N_m 0 256 J (if x < 0 then -(lN (gcf 14 (num (J 16) (J 17)))) else lN (gcf 14 (num (J 16) (J 17)))) 0 := by
    intro x
    unfold Mo_asPair_101 Mo_asPair_114
    by_cases hx : x < 0
    · rw [if_pos hx, if_neg (fun q => by have a := Int64.lt_iff_toInt_lt.mp hx; have b := Int64.le_iff_toInt_le.mp q; omega), show (0 : Int64) - lN (gcf 14 (num (J 16) (J 17))) = -(lN (gcf 14 (num (J 16) (J 17)))) by simp]
    · rw [if_neg hx, if_pos (Int64.le_iff_toInt_le.mpr (by have : ¬ x.toInt < (0 : Int64).toInt := fun q => hx (Int64.lt_iff_toInt_lt.mpr q); omega))]
  unfold Mo_asPair Mo_asPair_0
  refine Eq.trans key ?_
  rw [gmf_gcf za zb, ldv_z7 zb]
  obtain ⟨i1, i2⟩ := masp_2 (J := J) (g := lN (gcf 14 (num (J 16) (J 17)))) 14 256 (by decide) (by decide)
  unfold dvs lead
  by_cases hz : ldv 7 (J 17) = 0
  · rw [hz, if_pos rfl]
    refine Eq.trans i1 ?_
    rw [ldv_z7 za, e101, masp_3]
  · rw [if_neg hz]
    refine Eq.trans (i2 _ hz) ?_
    rw [e101, masp_3]
