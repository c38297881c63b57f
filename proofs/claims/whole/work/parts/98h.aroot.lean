theorem t_le : ∀ i, i < 110 → ∀ j, j < 110 → (tA i * tB j ≤ tA j * tB i ↔ i ≤ j) := by decide +kernel
theorem tc53 {k : Nat} (h : k < 3) : inb (nI k) (Tc 53).2 = true := inb_nI h (by decide)
theorem tc54 {k : Nat} (h : k < 3) : inb (nI k) (Tc 54).2 = true := inb_nI h (by decide)
theorem tc55 {k : Nat} (h : k < 3) : inb (nI k) (Tc 55).2 = true := inb_nI h (by decide)
/-- the root at place j of the class's rows -/
def atR (I : HI) (j k : Nat) (t : Int32) : Prop := I 53 j = iz (tA k) ∧ I 54 j = iz (tB k) ∧ I 55 j = t
theorem aroot_99 {w : Nat → Bool} {x n m : Nat} {t : Int32} {I : HI} (hn : n < 3) (hm : m ≤ n) (hc : I 30 9 = nI n) : ∃ I' : HI, Un_addRoot_99 (nn w) 30 (iz (tA x)) (iz (tB x)) t I (nI m) = some I' ∧ I' 30 9 = nI (n + 1) ∧ atR I' m x t ∧ (∀ j k s, j ≠ m → atR I j k s → atR I' j k s) ∧ (∀ a, a ≠ 30 → a ≠ 53 → a ≠ 54 → a ≠ 55 → I' a = I a) ∧ ∀ k, k ≠ 9 → I' 30 k = I 30 k := by
  unfold Un_addRoot_99
  rw [nv_30_6, gd_of (tc53 (by omega)), bd_e, nv_30_7, gd_of (tc54 (by omega)), bd_e, nv_30_8, gd_of (tc55 (by omega)), bd_e, bd_e, nI_clamp (by omega)]
  obtain ⟨I', hI'⟩ : ∃ I' : HI, I' = up2 (up2 (up2 (up2 I 53 m (iz (tA x))) 54 m (iz (tB x))) 55 m t) 30 9 (up2 (up2 (up2 I 53 m (iz (tA x))) 54 m (iz (tB x))) 55 m t 30 9 + 1) := ⟨_, rfl⟩
  rw [← hI']
  have r53 : I' 53 = va_up (I 53) m (iz (tA x)) := by rw [hI', up2_of (by decide), up2_of (by decide), up2_of (by decide), up2_at]
  have r54 : I' 54 = va_up (I 54) m (iz (tB x)) := by rw [hI', up2_of (by decide), up2_of (by decide), up2_at, up2_of (by decide)]
  have r55 : I' 55 = va_up (I 55) m t := by rw [hI', up2_of (by decide), up2_at, up2_of (by decide), up2_of (by decide)]
  have r30 : I' 30 = va_up (I 30) 9 (nI (n + 1)) := by rw [hI', up2_at, up2_of (by decide), up2_of (by decide), up2_of (by decide), hc, nI_1]
  refine ⟨I', rfl, by rw [r30, va_up_at], ⟨by rw [r53, va_up_at], by rw [r54, va_up_at], by rw [r55, va_up_at]⟩, fun j k s hj h => ⟨by rw [r53, va_up_of hj]; exact h.1, by rw [r54, va_up_of hj]; exact h.2.1, by rw [r55, va_up_of hj]; exact h.2.2⟩, fun a a1 a2 a3 a4 => by rw [hI', up2_of a1, up2_of a4, up2_of a3, up2_of a2], fun k hk => by rw [r30, va_up_of hk]⟩
theorem aroot_l {w : Nat → Bool} {x n : Nat} {ks : Nat → Nat} {t : Int32} {T : Nat → Int32} (hx : x < 110) (hn : n < 3) (hk : ∀ i, i < n → ks i < 110) : ∀ (m fuel : Nat) (I : HI), m ≤ n → m < fuel → I 30 9 = nI n → (∀ j, j < m → atR I j (ks j) (T j)) → (∀ j, m ≤ j → j < n → atR I (j + 1) (ks j) (T j) ∧ x < ks j) → ∃ (I' : HI) (m' : Nat), Un_addRoot_15 (nn w) 30 (iz (tA x)) (iz (tB x)) t fuel I (nI m) = some I' ∧ m' ≤ n ∧ I' 30 9 = nI (n + 1) ∧ (∀ j, j < m' → atR I' j (ks j) (T j)) ∧ atR I' m' x t ∧ (∀ j, m' ≤ j → j < n → atR I' (j + 1) (ks j) (T j) ∧ x < ks j) ∧ (m' = 0 ∨ ks (m' - 1) ≤ x) ∧ (∀ a, a ≠ 30 → a ≠ 53 → a ≠ 54 → a ≠ 55 → I' a = I a) ∧ ∀ k, k ≠ 9 → I' 30 k = I 30 k := by
  intro m
  induction m with
  | zero =>
    intro fuel I hm hf hc h1 h2
    obtain ⟨f, rfl⟩ : ∃ f, fuel = f + 1 := ⟨fuel - 1, by omega⟩
    obtain ⟨I', a1, a2, a3, a4, a5, a6⟩ := aroot_99 (w := w) (x := x) (t := t) hn hm hc
    refine ⟨I', 0, ?_, Nat.zero_le _, a2, fun j hj => by omega, a3, fun j h3 h4 => ⟨a4 _ _ _ (by omega) (h2 j h3 h4).1, (h2 j h3 h4).2⟩, Or.inl rfl, a5, a6⟩
    show Un_addRoot_15b (nn w) 30 (iz (tA x)) (iz (tB x)) t (Un_addRoot_15 (nn w) 30 (iz (tA x)) (iz (tB x)) t f) I (nI 0) = _
    unfold Un_addRoot_15b
    rw [if_pos (by decide), a1]
  | succ m ih =>
    intro fuel I hm hf hc h1 h2
    obtain ⟨f, rfl⟩ : ∃ f, fuel = f + 1 := ⟨fuel - 1, by omega⟩
    have am := h1 m (by omega)
    have tk := t_ok (ks m) (hk m (by omega))
    have tx := t_ok x hx
    have st : Un_addRoot_15 (nn w) 30 (iz (tA x)) (iz (tB x)) t (f + 1) I (nI (m + 1)) = if ks m ≤ x then Un_addRoot_99 (nn w) 30 (iz (tA x)) (iz (tB x)) t I (nI (m + 1)) else Un_addRoot_15 (nn w) 30 (iz (tA x)) (iz (tB x)) t f (up2 (up2 (up2 I 53 (m + 1) (I 53 m)) 54 (m + 1) (I 54 m)) 55 (m + 1) (I 55 m)) (nI m) := by
      show Un_addRoot_15b (nn w) 30 (iz (tA x)) (iz (tB x)) t (Un_addRoot_15 (nn w) 30 (iz (tA x)) (iz (tB x)) t f) I (nI (m + 1)) = _
      unfold Un_addRoot_15b
      have cmp : I 53 m * iz (tB x) ≤ iz (tA x) * I 54 m ↔ ks m ≤ x := by
        rw [am.1, am.2.1, iz_le (by omega) (by omega) (by omega) (by omega)]
        exact t_le _ (hk m (by omega)) _ hx
      rw [if_neg (nI_nle (by omega) (by omega)), show nI (m + 1) - 1 = nI m from nI_pred m, nv_30_7, gd_of (tc54 (by omega)), nv_30_6, gd_of (tc53 (by omega)), nI_clamp (by omega)]
      by_cases e : ks m ≤ x
      · rw [if_pos (cmp.mpr e), if_pos e]
      · rw [if_neg (fun q => e (cmp.mp q)), if_neg e, nv_30_6, nv_30_6, gd_of (tc53 (by omega)), gd_of (tc53 (by omega)), bd_e, nv_30_7, nv_30_7, gd_of (tc54 (by omega)), gd_of (tc54 (by omega)), bd_e, nv_30_8, nv_30_8, gd_of (tc55 (by omega)), gd_of (tc55 (by omega)), bd_e, nI_clamp (by omega), nI_m1, up2_of (show (54 : Nat) ≠ 53 by decide), up2_of (show (55 : Nat) ≠ 54 by decide), up2_of (show (55 : Nat) ≠ 53 by decide)]
    rw [st]
    by_cases e : ks m ≤ x
    · obtain ⟨I', a1, a2, a3, a4, a5, a6⟩ := aroot_99 (w := w) (x := x) (t := t) (m := m + 1) hn hm hc
      rw [if_pos e]
      exact ⟨I', m + 1, a1, hm, a2, fun j hj => a4 _ _ _ (by omega) (h1 j hj), a3, fun j h3 h4 => ⟨a4 _ _ _ (by omega) (h2 j h3 h4).1, (h2 j h3 h4).2⟩, Or.inr e, a5, a6⟩
    · rw [if_neg e]
      obtain ⟨I1, hI1⟩ : ∃ I1 : HI, I1 = up2 (up2 (up2 I 53 (m + 1) (I 53 m)) 54 (m + 1) (I 54 m)) 55 (m + 1) (I 55 m) := ⟨_, rfl⟩
      rw [← hI1]
      have r53 : I1 53 = va_up (I 53) (m + 1) (I 53 m) := by rw [hI1, up2_of (by decide), up2_of (by decide), up2_at]
      have r54 : I1 54 = va_up (I 54) (m + 1) (I 54 m) := by rw [hI1, up2_of (by decide), up2_at, up2_of (by decide)]
      have r55 : I1 55 = va_up (I 55) (m + 1) (I 55 m) := by rw [hI1, up2_at, up2_of (by decide), up2_of (by decide)]
      have mv : ∀ j k s, j ≠ m + 1 → atR I j k s → atR I1 j k s := fun j k s hj h => ⟨by rw [r53, va_up_of hj]; exact h.1, by rw [r54, va_up_of hj]; exact h.2.1, by rw [r55, va_up_of hj]; exact h.2.2⟩
      obtain ⟨I', m', b1, b2, b3, b4, b5, b6, b7, b8, b9⟩ := ih f I1 (by omega) (by omega) (by rw [hI1, up2_of (by decide), up2_of (by decide), up2_of (by decide)]; exact hc) (fun j hj => mv _ _ _ (by omega) (h1 j (by omega))) (fun j h3 h4 => by
        by_cases ej : j = m
        · subst ej
          exact ⟨⟨by rw [r53, va_up_at]; exact am.1, by rw [r54, va_up_at]; exact am.2.1, by rw [r55, va_up_at]; exact am.2.2⟩, by omega⟩
        · exact ⟨mv _ _ _ (by omega) (h2 j (by omega) h4).1, (h2 j (by omega) h4).2⟩)
      exact ⟨I', m', b1, b2, b3, b4, b5, b6, b7, fun a a1 a2 a3 a4 => by rw [b8 a a1 a2 a3 a4, hI1, up2_of a4, up2_of a3, up2_of a2], fun k hk => by rw [b9 k hk, hI1, up2_of (by decide), up2_of (by decide), up2_of (by decide)]⟩
