/-- k swaps of a row that runs backwards from d down -/
def rvk {α : Type} (d k : Nat) (f : Nat → α) : Nat → α := fun j => if j < k ∨ (d < j + k ∧ j ≤ d) then f (d - j) else f j
theorem rvk_0 {α : Type} {d : Nat} {f : Nat → α} : rvk d 0 f = f := by
  funext j
  exact if_neg (by omega)
theorem rvk_l {α : Type} {d k : Nat} {f : Nat → α} (h : k < d - k) : rvk d k f k = f k := if_neg (by omega)
theorem rvk_h {α : Type} {d k : Nat} {f : Nat → α} (h : k < d - k) : rvk d k f (d - k) = f (d - k) := if_neg (by omega)
theorem rvk_s {α : Type} {d k : Nat} {f : Nat → α} (h : k < d - k) : va_up (va_up (rvk d k f) k (f (d - k))) (d - k) (f k) = rvk d (k + 1) f := by
  funext j
  by_cases h1 : j = d - k
  · subst h1
    rw [va_up_at]
    unfold rvk
    rw [if_pos (by omega), show d - (d - k) = k by omega]
  · rw [va_up_of h1]
    by_cases h2 : j = k
    · subst h2
      rw [va_up_at]
      unfold rvk
      rw [if_pos (by omega)]
    · rw [va_up_of h2]
      unfold rvk
      by_cases h3 : j < k ∨ (d < j + k ∧ j ≤ d)
      · rw [if_pos h3, if_pos (by omega)]
      · rw [if_neg h3, if_neg (by omega)]
theorem Po_runBackwards_s {a : Nat} {w : Nat → Bool} {J : HJ} {d : Nat} (h : isPo a) (hd : d < 7) : Po_runBackwards (nn w) a (nI d) J = some (va_up J (a + 1) (rvk d ((d + 1) / 2) (J (a + 1)))) := by
  have key := up_loop (fun n J x => Po_runBackwards_2 (nn w) a (nI d) n J x) (fun k => va_up J (a + 1) (rvk d k (J (a + 1)))) (some (va_up J (a + 1) (rvk d ((d + 1) / 2) (J (a + 1))))) ((d + 1) / 2) (fun n k hk => ?_) (fun n => ?_) 256 0 (by omega) (by omega)
  · rw [rvk_0, va_up_id] at key
    exact key
  · have hkd : k < d - k := by omega
    show Po_runBackwards_2b (nn w) a (nI d) (Po_runBackwards_2 (nn w) a (nI d) n) _ (nI k) = _
    unfold Po_runBackwards_2b
    rw [if_neg (n7 (by omega)), pk_sub (show k ≤ d by omega), if_neg (nI_ge hkd (by omega)), Po_at_s h, bn1_s, Po_at_s h, bn1_s, pat_nI (by omega), pat_nI (by omega), va_up_at, rvk_l hkd, rvk_h hkd, Po_put_s h, bn1_s, va_up_at, va_up_va, pput_nI (by omega), Po_put_s h, bn1_s, va_up_at, va_up_va, pput_nI (by omega), rvk_s hkd, nI_1]
  · show Po_runBackwards_2b (nn w) a (nI d) (Po_runBackwards_2 (nn w) a (nI d) n) _ (nI ((d + 1) / 2)) = _
    unfold Po_runBackwards_2b
    rw [if_neg (n7 (by omega)), pk_sub (show (d + 1) / 2 ≤ d by omega), if_pos (nI_le (by omega) (by omega))]
/-- the same in one half of the reference's row -/
def rvs (p d k : Nat) (v : Nat → Int32) : Nat → Int32 := fun j => if 7 * p ≤ j ∧ j < 7 * p + 7 then rvk d k (fun x => v (7 * p + x)) (j - 7 * p) else v j
theorem rvs_0 {p d : Nat} {v : Nat → Int32} : rvs p d 0 v = v := by
  funext j
  unfold rvs
  rw [rvk_0]
  by_cases h : 7 * p ≤ j ∧ j < 7 * p + 7
  · rw [if_pos h, show 7 * p + (j - 7 * p) = j by omega]
  · rw [if_neg h]
theorem rvs_in {p d k x : Nat} {v : Nat → Int32} (h : x < 7) : rvs p d k v (7 * p + x) = rvk d k (fun x => v (7 * p + x)) x := by
  unfold rvs
  rw [if_pos (by omega), show 7 * p + x - 7 * p = x by omega]
theorem rvs_s {p d k : Nat} {v : Nat → Int32} (hd : d < 7) (h : k < d - k) : va_up (va_up (rvs p d k v) (7 * p + k) (v (7 * p + (d - k)))) (7 * p + (d - k)) (v (7 * p + k)) = rvs p d (k + 1) v := by
  have hs := rvk_s (f := fun x => v (7 * p + x)) h
  funext j
  by_cases hj : 7 * p ≤ j ∧ j < 7 * p + 7
  · obtain ⟨x, rfl⟩ : ∃ x, j = 7 * p + x := ⟨j - 7 * p, by omega⟩
    rw [rvs_in (by omega), ← hs]
    by_cases h1 : x = d - k
    · subst h1; rw [va_up_at, va_up_at]
    · rw [va_up_of (by omega), va_up_of h1]
      by_cases h2 : x = k
      · subst h2; rw [va_up_at, va_up_at]
      · rw [va_up_of (by omega), va_up_of h2, rvs_in (by omega)]
  · rw [va_up_of (by omega), va_up_of (by omega)]
    unfold rvs
    rw [if_neg hj, if_neg hj]
theorem mrev_l {I : HI} {k24 : HI → Int32 → Int32 → Option (HI × Int32)} {p d : Nat} (hp : p < 2) (hd : d < 7) : Mo_reverse_31 N_m 0 k24 256 I (nI d) (nI p) 0 = k24 (va_up I 4 (rvs p d ((d + 1) / 2) (I 4))) (nI d) (nI (p + 1)) := by
  have key := up_loop (fun n I x => Mo_reverse_31 N_m 0 k24 n I (nI d) (nI p) x) (fun k => va_up I 4 (rvs p d k (I 4))) (k24 (va_up I 4 (rvs p d ((d + 1) / 2) (I 4))) (nI d) (nI (p + 1))) ((d + 1) / 2) (fun n k hk => ?_) (fun n => ?_) 256 0 (by omega) (by omega)
  · rw [rvs_0, va_up_id] at key
    exact key
  · have hkd : k < d - k := by omega
    show Mo_reverse_31b N_m 0 k24 (Mo_reverse_31 N_m 0 k24 n) _ (nI d) (nI p) (nI k) = _
    unfold Mo_reverse_31b
    have e1 : (7 : Int32) * nI p + nI d - nI k = nI (7 * p + (d - k)) := by rw [i7, pk_sub (by omega)]; congr 1; omega
    rw [pk_sub (show k ≤ d by omega), if_neg (nI_ge hkd (by omega)), e1, i7, mv_4, tm4, gd_of (inb_nI (by omega) (by decide)), bd_e, mv_4, mv_4, tm4, gd_of (inb_nI (by omega) (by decide)), gd_of (inb_nI (by omega) (by decide)), bd_e, mv_4, tm4, gd_of (inb_nI (by omega) (by decide)), bd_e, nI_clamp (by omega), nI_clamp (by omega), va_up_at, up2_va, up2_va, rvs_in (by omega), rvs_in (by omega), rvk_l hkd, rvk_h hkd, rvs_s hd hkd, nI_1]
  · show Mo_reverse_31b N_m 0 k24 (Mo_reverse_31 N_m 0 k24 n) _ (nI d) (nI p) (nI ((d + 1) / 2)) = _
    unfold Mo_reverse_31b
    rw [pk_sub (show (d + 1) / 2 ≤ d by omega), if_pos (nI_le (by omega) (by omega)), nI_1]
theorem mrev_s {I : HI} {d : Nat} (hd : d < 7) : Mo_reverse_24 N_m 0 256 I (nI d) 0 = some (va_up I 4 (rvs 1 d ((d + 1) / 2) (rvs 0 d ((d + 1) / 2) (I 4))), nI d) := by
  show Mo_reverse_24b N_m 0 (Mo_reverse_24 N_m 0 255) I (nI d) 0 = _
  unfold Mo_reverse_24b
  rw [if_neg (by decide)]
  have h0 := mrev_l (I := I) (k24 := Mo_reverse_24 N_m 0 255) (p := 0) (by decide) hd
  rw [show nI 0 = 0 from rfl] at h0
  rw [h0]
  show Mo_reverse_24b N_m 0 (Mo_reverse_24 N_m 0 254) _ (nI d) (nI 1) = _
  unfold Mo_reverse_24b
  rw [if_neg (by decide), mrev_l (p := 1) (by decide) hd, va_up_at, va_up_va]
  show Mo_reverse_24b N_m 0 (Mo_reverse_24 N_m 0 253) _ (nI d) (nI 2) = _
  unfold Mo_reverse_24b
  rw [if_pos (by decide)]
theorem dgb_cases (z : Nat → Bool) : ∀ k, dgb k z = -1 ∨ ∃ d, d < k ∧ dgb k z = nI d := by
  intro k
  induction k with
  | zero => exact Or.inl rfl
  | succ k ih =>
    show (if z k = true then dgb k z else nI k) = -1 ∨ ∃ d, d < k + 1 ∧ (if z k = true then dgb k z else nI k) = nI d
    by_cases h : z k = true
    · rw [if_pos h]
      rcases ih with e | ⟨d, hd, e⟩
      · exact Or.inl e
      · exact Or.inr ⟨d, by omega, e⟩
    · rw [if_neg h]
      exact Or.inr ⟨k, Nat.lt_succ_self k, rfl⟩
def mx (a b : Int32) : Int32 := if a < b then b else a
theorem mx_le (a b : Int32) : (if a ≤ b then some b else some a) = some (mx a b) := by
  unfold mx
  by_cases h : a < b
  · rw [if_pos h, if_pos (Int32.le_iff_toInt_le.mpr (Int.le_of_lt (Int32.lt_iff_toInt_lt.mp h)))]
  · rw [if_neg h]
    by_cases h2 : a ≤ b
    · have e : a = b := by
        apply Int32.toInt_inj.mp
        have := Int32.le_iff_toInt_le.mp h2
        have : ¬ a.toInt < b.toInt := fun q => h (Int32.lt_iff_toInt_lt.mpr q)
        omega
      rw [if_pos h2, e]
    · rw [if_neg h2]
theorem mx_cases (z y : Nat → Bool) : mx (dgb 7 z) (dgb 7 y) = -1 ∨ ∃ d, d < 7 ∧ mx (dgb 7 z) (dgb 7 y) = nI d := by
  unfold mx
  by_cases h : dgb 7 z < dgb 7 y
  · rw [if_pos h]; exact dgb_cases y 7
  · rw [if_neg h]; exact dgb_cases z 7
theorem RW_rev {A B : Nat → Int64} {v : Nat → Int32} {d k : Nat} (hd : d < 7) (h : RW A B v) : RW (rvk d k A) (rvk d k B) (rvs 1 d k (rvs 0 d k v)) := by
  have e0 : ∀ j, j < 7 → rvs 1 d k (rvs 0 d k v) j = rvk d k v j := by
    intro j hj
    unfold rvs
    rw [if_neg (by omega), if_pos (by omega)]
    simp only [Nat.mul_zero, Nat.zero_add, Nat.sub_zero]
  have e1 : ∀ j, j < 7 → rvs 1 d k (rvs 0 d k v) (7 + j) = rvk d k (fun x => v (7 + x)) j := by
    intro j hj
    have := rvs_in (p := 1) (d := d) (k := k) (v := rvs 0 d k v) hj
    rw [show 7 * 1 + j = 7 + j by omega] at this
    rw [this]
    unfold rvk
    have e2 : ∀ x, rvs 0 d k v (7 * 1 + x) = v (7 + x) := fun x => by
      unfold rvs
      rw [if_neg (by omega)]
    simp only [e2]
  refine ⟨fun j hj => ?_, fun j hj => ?_, fun j hj => ?_⟩
  · rw [e0 j hj]
    unfold rvk
    by_cases q : j < k ∨ (d < j + k ∧ j ≤ d)
    · rw [if_pos q, if_pos q]; exact h.1 _ (by omega)
    · rw [if_neg q, if_neg q]; exact h.1 _ hj
  · rw [e1 j hj]
    unfold rvk
    by_cases q : j < k ∨ (d < j + k ∧ j ≤ d)
    · rw [if_pos q, if_pos q]; exact h.2.1 _ (by omega)
    · rw [if_neg q, if_neg q]; exact h.2.1 _ hj
  · by_cases hj7 : j < 7
    · rw [e0 j hj7]
      unfold rvk
      by_cases q : j < k ∨ (d < j + k ∧ j ≤ d)
      · rw [if_pos q]; exact h.2.2 _ (by omega)
      · rw [if_neg q]; exact h.2.2 _ hj
    · obtain ⟨x, rfl⟩ : ∃ x, j = 7 + x := ⟨j - 7, by omega⟩
      rw [e1 x (by omega)]
      unfold rvk
      by_cases q : x < k ∨ (d < x + k ∧ x ≤ d)
      · rw [if_pos q]; exact h.2.2 _ (by omega)
      · rw [if_neg q]; exact h.2.2 _ (by omega)
theorem reverse_ok {w : Nat → Bool} {I2 : HI} {J : HJ} (hW : RW (J (ab w 1 + 1)) (J (be w 1 + 1)) (I2 4)) : ∃ (J' : HJ) (I2' : HI) (r : Int32), Lm_reverse (nn w) 0 J = some (J', r) ∧ Mo_reverse N_m 0 I2 = some (I2', r) ∧ RW (J' (ab w 1 + 1)) (J' (be w 1 + 1)) (I2' 4) ∧ fW J J' I2 I2' := by
  unfold Lm_reverse Lm_reverse_0 Mo_reverse Mo_reverse_0 Mo_greater Mo_greater_0
  rw [nv_0_0, Pa_greaterDegree_s pa_1, bn1_s, show (0 : Int32) = nI 0 from rfl, show (1 : Int32) = nI 1 from rfl, Mo_degree_s (by decide), Mo_degree_s (by decide), bn1_s, bn1_s, mx_le, bn1_s, RW_da hW, RW_db hW, show nI 0 = 0 from rfl, show nI 1 = 1 from rfl]
  show ∃ (J' : HJ) (I2' : HI) (r : Int32), (if mx (dgb 7 (zi (I2 4) 0)) (dgb 7 (zi (I2 4) 1)) = -1 then _ else _) = some (J', r) ∧ _
  rcases mx_cases (zi (I2 4) 0) (zi (I2 4) 1) with e | ⟨d, hd, e⟩
  · refine ⟨J, I2, -3, ?_, ?_, hW, fW_rf⟩
    · rw [if_pos e]
    · rw [if_pos e]
  · have hne : ¬ nI d = -1 := fun q => by
      have := congrArg Int32.toInt q
      rw [nI_toInt (by omega), show (-1 : Int32).toInt = -1 from rfl] at this
      omega
    have h35 : be w 1 + 1 ≠ ab w 1 + 1 := by rcases ab1 (w := w) with ⟨a, b⟩ | ⟨a, b⟩ <;> omega
    refine ⟨va_up (va_up J (ab w 1 + 1) (rvk d ((d + 1) / 2) (J (ab w 1 + 1)))) (be w 1 + 1) (rvk d ((d + 1) / 2) (J (be w 1 + 1))), va_up I2 4 (rvs 1 d ((d + 1) / 2) (rvs 0 d ((d + 1) / 2) (I2 4))), nI d, ?_, ?_, ?_, ?_⟩
    · have e' : (if dgb 7 (zi (I2 4) 0) < dgb 7 (zi (I2 4) 1) then dgb 7 (zi (I2 4) 1) else dgb 7 (zi (I2 4) 0)) = nI d := e
      rw [e', e, if_neg hne, nv_0_0, Pa_side_0s pa_1, bn1_s, gd_of (po_dec pab_1), Po_runBackwards_s pab_1 hd, bn1_s, nv_0_0, Pa_side_1s pa_1 (by decide), bn1_s, gd_of (po_dec pbe_1), Po_runBackwards_s pbe_1 hd, bn1_s, va_up_of h35]
    · rw [e, if_neg hne, mrev_s hd]
    · rw [va_up_of (Ne.symm h35), va_up_at, va_up_at, va_up_at]
      exact RW_rev hd hW
    · exact ⟨fun a h3 h5 => by rw [va_up_of (by rcases ab1 (w := w) with ⟨a, b⟩ | ⟨a, b⟩ <;> omega), va_up_of (by rcases ab1 (w := w) with ⟨a, b⟩ | ⟨a, b⟩ <;> omega)], fun a h => va_up_of h⟩
