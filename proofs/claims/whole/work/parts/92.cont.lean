/-- what the content leaves, times the content -/
theorem cont_mul {f : Nat → Int64} (hn : ∀ k, k < 7 → nm (f k)) {k : Nat} (hk : k < 7) : (if lN (gcf 7 f) ≤ 1 then f k else f k / lN (gcf 7 f)).toInt * (gcf 7 f : Int) = (f k).toInt := by
  have hlt : gcf 7 f < 2 ^ 63 := gcf_lt 7 (fun j hj => hn j hj)
  have hd : gcf 7 f ∣ (f k).toInt.natAbs := (gcf_dvd 7).mp (Nat.dvd_refl _) k hk
  have li : (lN (gcf 7 f)).toInt = (gcf 7 f : Int) := pk_lT hlt
  have one : (1 : Int64).toInt = 1 := rfl
  by_cases e : lN (gcf 7 f) ≤ 1
  · rw [if_pos e]
    have := le_i.mp e
    rw [li, one] at this
    rcases (show gcf 7 f = 0 ∨ gcf 7 f = 1 by omega) with h | h
    · rw [h] at hd ⊢
      have := Nat.eq_zero_of_zero_dvd hd
      omega
    · rw [h]; exact Int.mul_one _
  · rw [if_neg e]
    have h2 : ¬ (gcf 7 f : Int) ≤ 1 := fun q => e (le_i.mpr (by rw [li, one]; exact q))
    have lf : lb (f k) (2 ^ 63 - 1) := by
      have h := abs_lt (hn k hk)
      unfold lb; omega
    obtain ⟨c, hc⟩ : ((gcf 7 f : Nat) : Int) ∣ (f k).toInt := Int.ofNat_dvd_left.mpr hd
    rw [dv_i lf (by decide), li, tdiv_c hc (by omega), hc, Int.mul_comm]
