theorem V_01 {f : Nat → Int} : Vv f 0 1 = f 0 := by unfold Vv; grind
/-- what is left without roots but 0: one number alone, if and only if its normal form is a number -/
theorem sh_nf : ∀ d {f : Nat → Int}, d ≤ 4 → (∀ i, d ≤ i → i < 4 → f i = 0) → (∃ i, i < 4 ∧ f i ≠ 0) → (∀ a b, Ro a b → a ≠ 0 → Vv f a b ≠ 0) → ∃ n R, Rd n f R ∧ Irr R ∧ ((∃ c, c < 4 ∧ ∀ i, i < 4 → i ≠ c → f i = 0) ↔ ∀ i, 1 ≤ i → i < 4 → R i = 0)
  | 0, f, _, hz, ⟨i, hi, hne⟩, _ => absurd (hz i (by omega) hi) hne
  | d + 1, f, hd, hz, hne, hr => by
    by_cases f0 : f 0 = 0
    · have mu : Mu 0 1 (fun i => if i < 3 then f (i + 1) else 0) f := by
        refine ⟨by rw [f0, Int.zero_mul], ?_, ?_, ?_, rfl⟩
        · show f 1 = 1 * f 1 + 0 * f 2
          omega
        · show f 2 = 1 * f 2 + 0 * f 3
          omega
        · show f 3 = 1 * f 3
          omega
      have r01 : Ro 0 1 := ⟨by decide, by decide, by decide⟩
      obtain ⟨n, R, h1, h2, h3⟩ := sh_nf d (f := fun i => if i < 3 then f (i + 1) else 0) (by omega) (fun i h1 h2 => by
        show (if i < 3 then f (i + 1) else 0) = 0
        by_cases e : i < 3
        · rw [if_pos e]; exact hz (i + 1) (by omega) (by omega)
        · rw [if_neg e]) (mu_ne mu hne) (fun a b r a0 q => hr a b r a0 (((mu_Ot r01 mu) a b r (fun z => a0 z.1)).1.mpr q))
      refine ⟨n + 1, R, ⟨0, 1, _, r01, mu, h1⟩, h2, Iff.trans ?_ h3⟩
      constructor
      · rintro ⟨c, hc, h⟩
        obtain ⟨j, hj, hj0⟩ := hne
        have jc : j = c := Classical.byContradiction fun q => hj0 (h j hj q)
        have c0 : c ≠ 0 := fun q => hj0 (by rw [jc, q]; exact f0)
        refine ⟨c - 1, by omega, fun i hi hic => ?_⟩
        show (if i < 3 then f (i + 1) else 0) = 0
        by_cases e : i < 3
        · rw [if_pos e]; exact h (i + 1) (by omega) (by omega)
        · rw [if_neg e]
      · rintro ⟨c, hc, h⟩
        have h : ∀ i, i < 4 → i ≠ c → (if i < 3 then f (i + 1) else 0) = 0 := h
        by_cases c3 : c < 3
        · refine ⟨c + 1, by omega, fun i hi hic => ?_⟩
          by_cases i0 : i = 0
          · rw [i0]; exact f0
          · have := h (i - 1) (by omega) (by omega)
            rw [if_pos (by omega), show i - 1 + 1 = i by omega] at this
            exact this
        · refine ⟨0, by omega, fun i hi hic => ?_⟩
          have := h (i - 1) (by omega) (by omega)
          rw [if_pos (by omega), show i - 1 + 1 = i by omega] at this
          exact this
    · refine ⟨0, f, fun _ _ => rfl, fun a b r => ?_, ?_⟩
      · by_cases a0 : a = 0
        · subst a0
          have := r.2.2
          rw [show (0 : Int).natAbs = 0 from rfl, Nat.gcd_zero_left] at this
          obtain rfl : b = 1 := by have := r.1; omega
          rw [V_01]; exact f0
        · exact hr a b r a0
      · constructor
        · rintro ⟨c, hc, h⟩
          have c0 : c = 0 := Classical.byContradiction fun q => f0 (h 0 (by decide) (fun z => q z.symm))
          exact fun i h1 h2 => h i h2 (by omega)
        · exact fun h => ⟨0, by decide, fun i hi h0 => h i (by omega) hi⟩
theorem low_ex {f : Nat → Int64} : ∀ m k, (∀ i, i < k → f i = 0) → (∃ i, i < m + k ∧ ¬ f i = 0) → ∃ l, l < m + k ∧ ¬ f l = 0 ∧ ∀ i, i < l → f i = 0
  | 0, k, hz, ⟨i, hi, hne⟩ => absurd (hz i (by omega)) hne
  | m + 1, k, hz, ex => by
    by_cases h : f k = 0
    · obtain ⟨l, h1, h2⟩ := low_ex m (k + 1) (fun i hi => by
        by_cases e : i = k
        · subst e; exact h
        · exact hz i (by omega)) (by obtain ⟨i, hi, hn⟩ := ex; exact ⟨i, by omega, hn⟩)
      exact ⟨l, by omega, h2⟩
    · exact ⟨k, by omega, h, hz⟩
/-- the class's dark test -/
theorem cdark {Hr r : Nat → Int64} {dH e : Nat} (hQ : Qr dH e r) (hRd : Rd e (ri Hr) (ri r)) (hr : ∀ a b, Ro a b → a ≠ 0 → Vv (ri r) a b ≠ 0) : ∃ n R, Rd n (ri Hr) R ∧ Irr R ∧ (dgb 7 (zl r) = lwb 7 0 (zl r) ↔ ∀ i, 1 ≤ i → i < 4 → R i = 0) := by
  obtain ⟨i0, hi0, hne⟩ := id hQ.2.2.2
  obtain ⟨n, R, h1, h2, h3⟩ := sh_nf 4 (f := ri r) (Nat.le_refl 4) (fun i a b => by omega) ⟨i0, hi0, i64_ne.mp hne⟩ hr
  refine ⟨e + n, R, Rd_tr e n hRd h1, h2, Iff.trans ?_ h3⟩
  obtain ⟨t, ht⟩ := top_ex (f := r) 7 (Nat.le_refl 7) (fun i a b => by omega) ⟨i0, by omega, hne⟩
  obtain ⟨l, l1, l2, l3⟩ := low_ex (f := r) 7 0 (fun i hi => by omega) ⟨i0, by omega, hne⟩
  have t4 : t < 4 := Classical.byContradiction fun q => ht.2.1 (hQ.2.1 t (by omega) ht.1)
  rw [dgb_tp ht, lwb_low (t := l) 7 0 (by omega) (by omega) l2 (fun i _ hi => l3 i hi), nI_eq (by omega) (by omega)]
  constructor
  · rintro rfl
    refine ⟨t, t4, fun i hi hit => ?_⟩
    apply i64_e0.mp
    by_cases q : i < t
    · exact l3 i q
    · exact ht.2.2 i (by omega) (by omega)
  · rintro ⟨c, hc, h⟩
    have e1 : t = c := Classical.byContradiction fun q => ht.2.1 (i64_e0.mpr (h t t4 q))
    have e2 : l = c := Classical.byContradiction fun q => l2 (i64_e0.mpr (h l (by
      have : l ≤ t := Nat.le_of_not_lt fun z => l2 (ht.2.2 l z (by omega))
      omega) q))
    omega
