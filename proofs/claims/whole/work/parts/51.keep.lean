theorem Pa_load_s {p q : Nat} {w : Nat → Bool} {J : HJ} (h : isPa p) (h2 : isPa q) (hpq : q + 3 < p + 1) : Pa_load (nn w) p q J = some (va_up (va_up J (ab w p + 1) (wrk 7 (J (ab w p + 1)) (J (ab w q + 1)))) (be w p + 1) (wrk 7 (J (be w p + 1)) (J (be w q + 1)))) := by
  have hp := ab_be (w := w) (p := p)
  have hq := ab_be (w := w) (p := q)
  unfold Pa_load Pa_load_0
  rw [pa_0 h, pa_0 h2, Po_load_s (isPa_ab h w) (isPa_ab h2 w) (by omega), bn1_s, pa_1' h, pa_1' h2, Po_load_s (isPa_be h w) (isPa_be h2 w) (by omega), bn1_s, va_up_of (show be w p + 1 ≠ ab w p + 1 by omega), va_up_of (show be w q + 1 ≠ ab w p + 1 by omega)]
theorem gcf_congr {x y : Nat → Int64} : ∀ k, (∀ j, j < k → x j = y j) → gcf k x = gcf k y := by
  intro k
  induction k with
  | zero => intro _; rfl
  | succ k ih =>
    intro h
    show Nat.gcd (gcf k x) _ = Nat.gcd (gcf k y) _
    rw [ih (fun j hj => h j (by omega)), h k (Nat.lt_succ_self k)]
theorem ldv_congr {x y : Nat → Int64} : ∀ k, (∀ j, j < k → x j = y j) → ldv k x = ldv k y := by
  intro k
  induction k with
  | zero => intro _; rfl
  | succ k ih =>
    intro h
    show (if x k = 0 then ldv k x else x k) = (if y k = 0 then ldv k y else y k)
    rw [ih (fun j hj => h j (by omega)), h k (Nat.lt_succ_self k)]
theorem dvs_congr {A B A' B' : Nat → Int64} (hA : ∀ k, k < 7 → A k = A' k) (hB : ∀ k, k < 7 → B k = B' k) : dvs A B = dvs A' B' := by
  have hg : gcf 14 (num A B) = gcf 14 (num A' B') := gcf_congr 14 (fun j hj => by
    unfold num
    by_cases h : j < 7
    · rw [if_pos h, if_pos h]; exact hA j h
    · rw [if_neg h, if_neg h]; exact hB _ (by omega))
  unfold dvs lead
  rw [hg, ldv_congr 7 hA, ldv_congr 7 hB]
theorem i9_nm {x : Int32} : nm x.toInt64 := by
  unfold nm
  rw [Int32.toInt_toInt64]
  have := ir x
  omega
/-- the wish's polynomials as longs, and as a pair -/
def wA (v : Nat → Int32) : Nat → Int64 := fun k => (v k).toInt64
def wB (v : Nat → Int32) : Nat → Int64 := fun k => (v (7 + k)).toInt64
def wd (v : Nat → Int32) : Int64 := dvs (wA v) (wB v)
/-- the wish's numbers as a pair -/
def wx (v : Nat → Int32) : Nat → Int64 := num (nrm (wd v) (wA v)) (nrm (wd v) (wB v))
theorem tdiv_le (a b : Int) : (a.tdiv b).natAbs ≤ a.natAbs := by
  rw [Int.natAbs_tdiv]
  exact Nat.div_le_self _ _
theorem nrm_9 {d : Int64} {f : Nat → Int64} {k : Nat} (h : -9 ≤ (f k).toInt ∧ (f k).toInt ≤ 9) : wn (nrm d f k) = true := by
  unfold nrm
  by_cases e : d = 0
  · rw [if_pos e]; exact decide_eq_true h
  · rw [if_neg e]
    have h1 := tdiv_le (f k).toInt d.toInt
    have h2 : (f k / d).toInt = (f k).toInt.tdiv d.toInt := by
      rw [Int64.toInt_div]
      exact Int.bmod_eq_of_le (by omega) (by omega)
    exact decide_eq_true ⟨by rw [h2]; omega, by rw [h2]; omega⟩
theorem wx_9 {v : Nat → Int32} (h : ∀ k, k < 14 → -9 ≤ (v k).toInt ∧ (v k).toInt ≤ 9) {k : Nat} (hk : k < 14) : wn (wx v k) = true := by
  unfold wx num
  by_cases h7 : k < 7
  · rw [if_pos h7]
    exact nrm_9 (by unfold wA; rw [Int32.toInt_toInt64]; exact h k hk)
  · rw [if_neg h7]
    exact nrm_9 (by unfold wB; rw [Int32.toInt_toInt64, show 7 + (k - 7) = k by omega]; exact h k hk)
/-- the sought pair of the class -/
theorem sought_s {w : Nat → Bool} {J : HJ} {v : Nat → Int32} (hW : RW (J (ab w 1 + 1)) (J (be w 1 + 1)) v) : ∃ J2 J' : HJ, Pa_load (nn w) 78 1 J = some J2 ∧ Pa_becomeAsPair (nn w) 78 J2 = some J' ∧ (∀ k, k < 14 → num (J' (ab w 78 + 1)) (J' (be w 78 + 1)) k = wx v k) ∧ ∀ a, a ≠ 80 → a ≠ 82 → J' a = J a := by
  have hp := ab_be (w := w) (p := 78)
  have hne : be w 78 + 1 ≠ ab w 78 + 1 := by omega
  obtain ⟨J2, hJ2⟩ : ∃ J2 : HJ, J2 = va_up (va_up J (ab w 78 + 1) (wrk 7 (J (ab w 78 + 1)) (J (ab w 1 + 1)))) (be w 78 + 1) (wrk 7 (J (be w 78 + 1)) (J (be w 1 + 1))) := ⟨_, rfl⟩
  have eA : J2 (ab w 78 + 1) = wrk 7 (J (ab w 78 + 1)) (J (ab w 1 + 1)) := by rw [hJ2, va_up_of (Ne.symm hne), va_up_at]
  have eB : J2 (be w 78 + 1) = wrk 7 (J (be w 78 + 1)) (J (be w 1 + 1)) := by rw [hJ2, va_up_at]
  have hA : ∀ k, k < 7 → J2 (ab w 78 + 1) k = wA v k := fun k hk => by rw [eA, wrk_lt hk]; exact hW.1 k hk
  have hB : ∀ k, k < 7 → J2 (be w 78 + 1) k = wB v k := fun k hk => by rw [eB, wrk_lt hk]; exact hW.2.1 k hk
  have hd := dvs_congr hA hB
  refine ⟨J2, _, by rw [Pa_load_s pa_78 pa_1 (by decide), hJ2], Pa_becomeAsPair_s pa_78 (fun k hk => by rw [hA k hk]; exact i9_nm) (fun k hk => by rw [hB k hk]; exact i9_nm), fun k hk => ?_, fun a h0 h2 => ?_⟩
  · rw [va_up_of (Ne.symm hne), va_up_at, va_up_at, hd]
    unfold wx num
    by_cases h7 : k < 7
    · rw [if_pos h7, if_pos h7, wrk_lt h7]
      unfold nrm wd
      rw [hA k h7]
    · rw [if_neg h7, if_neg h7, wrk_lt (by omega)]
      unfold nrm wd
      rw [hB _ (by omega)]
  · rw [va_up_of (by omega), va_up_of (by omega), hJ2, va_up_of (by omega), va_up_of (by omega)]
/-- m numbers from k on are the same -/
def eqm (x y : Nat → Int32) : Nat → Nat → Bool
  | 0, _ => true
  | m + 1, k => decide (x k = y k) && eqm x y m (k + 1)
theorem eq32 {m : Int32} {x : Int64} (h : wn x = true) : (m.toInt64 = x) ↔ m = x.toInt32 := by
  have e := (wn_32 h).1
  constructor
  · intro q; rw [← q, t32]
  · intro q; rw [q, e]
theorem isSought_l {w : Nat → Bool} {I : HI} {J : HJ} {q r : Nat} {v : Nat → Int32} (hq : q ≤ 12) (hc : I 64 2 = nI q) (hr : r < q) (hv : ∀ k, k < 14 → -9 ≤ (v k).toInt ∧ (v k).toInt ≤ 9) (hx : ∀ k, k < 14 → num (J (ab w 78 + 1)) (J (be w 78 + 1)) k = wx v k) : ∀ m k n, m + k = 14 → m < n → Me_isSought_2 I J (nn w) 64 (nI r) n (nI k) = some (b2i (eqm (fun j => I (66 + r) (1 + j)) (fun j => (wx v j).toInt32) m k)) := by
  intro m
  induction m with
  | zero =>
    intro k n h1 h2
    obtain ⟨n, rfl⟩ : ∃ j, n = j + 1 := ⟨n - 1, by omega⟩
    have : k = 14 := by omega
    subst this
    show Me_isSought_2b I J (nn w) 64 (nI r) (Me_isSought_2 I J (nn w) 64 (nI r) n) _ = _
    unfold Me_isSought_2b
    rw [if_pos (by decide)]
    rfl
  | succ m ih =>
    intro k n h1 h2
    obtain ⟨n, rfl⟩ : ∃ j, n = j + 1 := ⟨n - 1, by omega⟩
    show Me_isSought_2b I J (nn w) 64 (nI r) (Me_isSought_2 I J (nn w) 64 (nI r) n) _ = _
    unfold Me_isSought_2b
    rw [if_neg (n14 (by omega)), show (1 : Int32) + nI k = nI (1 + k) from nI_add 1 k, Me_item_s hq hc hr (by omega), bn1_s, nv_64_1, Pa_number_s pa_78 (by omega), bn1_s, hx k (by omega), nI_1, ih (k + 1) n (by omega) (by omega)]
    show _ = some (b2i (decide (I (66 + r) (1 + k) = (wx v k).toInt32) && eqm _ _ m (k + 1)))
    by_cases e : I (66 + r) (1 + k) = (wx v k).toInt32
    · rw [if_pos ((eq32 (wx_9 hv (by omega))).mpr e), decide_eq_true e, Bool.true_and]
    · rw [if_neg (fun z => e ((eq32 (wx_9 hv (by omega))).mp z)), decide_eq_false e]
      rfl
/-- the first of m from k on that is e, else -1 -/
def fnd (e : Nat → Bool) : Nat → Nat → Int32
  | 0, _ => -1
  | m + 1, k => if e k = true then nI k else fnd e m (k + 1)
theorem numberOf_l {w : Nat → Bool} {I : HI} {J : HJ} {q a1 : Nat} {v : Nat → Int32} (hq : q ≤ 12) (hc : I 64 2 = nI q) (hv : ∀ k, k < 14 → -9 ≤ (v k).toInt ∧ (v k).toInt ≤ 9) (hx : ∀ k, k < 14 → num (J (ab w 78 + 1)) (J (be w 78 + 1)) k = wx v k) : ∀ m k n, m + k = q → m < n → Me_numberOf_17 I (nn w) 64 a1 n J (nI k) = some (J, fnd (fun r => eqm (fun j => I (66 + r) (1 + j)) (fun j => (wx v j).toInt32) 14 0) m k) := by
  intro m
  induction m with
  | zero =>
    intro k n h1 h2
    obtain ⟨n, rfl⟩ : ∃ j, n = j + 1 := ⟨n - 1, by omega⟩
    show Me_numberOf_17b I (nn w) 64 a1 (Me_numberOf_17 I (nn w) 64 a1 n) J _ = _
    unfold Me_numberOf_17b
    rw [hc, if_pos (nI_le (by omega) (by omega))]
    rfl
  | succ m ih =>
    intro k n h1 h2
    obtain ⟨n, rfl⟩ : ∃ j, n = j + 1 := ⟨n - 1, by omega⟩
    show Me_numberOf_17b I (nn w) 64 a1 (Me_numberOf_17 I (nn w) 64 a1 n) J _ = _
    unfold Me_numberOf_17b
    have hs : Me_isSought I J (nn w) 64 (nI k) = some (b2i (eqm (fun j => I (66 + k) (1 + j)) (fun j => (wx v j).toInt32) 14 0)) := isSought_l hq hc (by omega) hv hx 14 0 256 (by decide) (by decide)
    rw [hc, if_neg (nI_ge (by omega) (by omega)), hs, bn1_s, nI_1, ih (k + 1) n (by omega) (by omega)]
    show _ = some (J, if eqm (fun j => I (66 + k) (1 + j)) (fun j => (wx v j).toInt32) 14 0 = true then nI k else fnd _ m (k + 1))
    cases eqm (fun j => I (66 + k) (1 + j)) (fun j => (wx v j).toInt32) 14 0 <;> rfl
theorem numberOf_s {w : Nat → Bool} {I : HI} {J : HJ} {q : Nat} {v : Nat → Int32} (hW : RW (J (ab w 1 + 1)) (J (be w 1 + 1)) v) (hq : q ≤ 12) (hc : I 64 2 = nI q) : ∃ J' : HJ, Me_numberOf I (nn w) 64 1 J = some (J', fnd (fun r => eqm (fun j => I (66 + r) (1 + j)) (fun j => (wx v j).toInt32) 14 0) q 0) ∧ (∀ k, k < 14 → num (J' (ab w 78 + 1)) (J' (be w 78 + 1)) k = wx v k) ∧ ∀ a, a ≠ 80 → a ≠ 82 → J' a = J a := by
  obtain ⟨J2, J', h1, h2, h3, h4⟩ := sought_s hW
  refine ⟨J', ?_, h3, h4⟩
  unfold Me_numberOf Me_numberOf_0
  rw [nv_64_1, h1, bn1_s, nv_64_1, h2, bn1_s]
  exact numberOf_l hq hc hW.2.2 h3 q 0 256 (by omega) (by omega)
