theorem n_start : N_c = nn (fun _ => false) := by
  funext a k
  unfold nn
  cases h : pr a && decide (k < 2) with
  | false => rfl
  | true =>
    rw [Bool.and_eq_true] at h
    obtain ⟨h1, h2⟩ := h
    have h2 := of_decide_eq_true h2
    have h3 : a = 1 ∨ a = 15 ∨ a = 20 ∨ a = 25 ∨ a = 39 ∨ a = 44 ∨ a = 78 := by
      unfold pr at h1
      simpa using h1
    rcases (show k = 0 ∨ k = 1 by omega) with rfl | rfl <;> rcases h3 with rfl | rfl | rfl | rfl | rfl | rfl | rfl <;> rfl
theorem rel0 : Rel I_c J_c N_c I_m J_m N_m := by
  refine ⟨fun _ => false, n_start, rfl, 0, 0, ⟨fun k hk => ?_, fun k hk => ?_, fun k hk => ?_⟩, fun s hs => ?_, ⟨by decide, rfl, rfl, fun k hk => absurd hk (by omega), fun k hk => absurd hk (by omega), by decide⟩, fun h => absurd rfl h, ⟨rfl, fun x hx => absurd hx (by omega)⟩, ⟨by decide, rfl, rfl, fun k hk => absurd hk (by omega)⟩, rfl, Or.inl rfl⟩
  · rcases (show k = 0 ∨ k = 1 ∨ k = 2 ∨ k = 3 ∨ k = 4 ∨ k = 5 ∨ k = 6 by omega) with rfl | rfl | rfl | rfl | rfl | rfl | rfl <;> rfl
  · rcases (show k = 0 ∨ k = 1 ∨ k = 2 ∨ k = 3 ∨ k = 4 ∨ k = 5 ∨ k = 6 by omega) with rfl | rfl | rfl | rfl | rfl | rfl | rfl <;> rfl
  · have e : I_m 4 k = 0 := by rfl
    rw [e]; decide
  · have e1 : I_c 88 s = -1 := by rcases (show s = 0 ∨ s = 1 ∨ s = 2 by omega) with rfl | rfl | rfl <;> rfl
    have e2 : I_m 1 s = -1 := by rcases (show s = 0 ∨ s = 1 ∨ s = 2 by omega) with rfl | rfl | rfl <;> rfl
    rw [e1, e2]
    refine ⟨rfl, by decide, by decide, fun i hi => ?_⟩
    have : (i : Int) < -1 := hi
    omega
