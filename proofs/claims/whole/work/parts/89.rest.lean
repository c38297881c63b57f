/-- the numbers from k on are new -/
def wrh (k : Nat) (f g : Nat → Int64) : Nat → Int64 := fun j => if k ≤ j ∧ j < 7 then g j else f j
theorem wrh_7 {f g : Nat → Int64} : wrh 7 f g = f := by funext j; unfold wrh; rw [if_neg (by omega)]
theorem wrh_s {k : Nat} {f g : Nat → Int64} (hk : k < 7) : va_up (wrh (k + 1) f g) k (g k) = wrh k f g := by
  funext j
  by_cases e : j = k
  · subst e; rw [va_up_at]; unfold wrh; rw [if_pos (by omega)]
  · rw [va_up_of e]
    unfold wrh
    by_cases h : k + 1 ≤ j ∧ j < 7
    · rw [if_pos h, if_pos (by omega)]
    · rw [if_neg h, if_neg (by omega)]
theorem wrh_lo {k j : Nat} {f g : Nat → Int64} (h : j < k) : wrh k f g j = f j := by unfold wrh; rw [if_neg (by omega)]
theorem wrh_0 {j : Nat} {f g : Nat → Int64} (h : j < 7) : wrh 0 f g j = g j := by unfold wrh; rw [if_pos (by omega)]
/-- the remainder: lead of q times p, less lead of p times q shifted -/
def rem1 (p q : Nat → Int64) (pl ql : Int64) : Nat → Int64 := fun i => ql * p i - (if i = 0 then 0 else pl * q (i - 1))
theorem mrem_181 {I : HI} {J : HJ} {p1 p2 p3 : Int32} {x5 x7 x9 x11 : Int64} : ∀ k n, k ≤ 7 → k < n → Mo_dividesOnce_181 N_m 0 p1 p2 p3 n I (va_up J 7 (wrh k (J 7) (rem1 (J 7) (J 8) x5 x7))) x5 x7 x9 x11 (nI k + (-1)) = Mo_dividesOnce_181b N_m 0 p1 p2 p3 (fun _ _ _ _ _ _ _ => none) I (va_up J 7 (wrh 0 (J 7) (rem1 (J 7) (J 8) x5 x7))) x5 x7 x9 x11 (-1)
  | 0, n + 1, _, _ => by
    show Mo_dividesOnce_181b N_m 0 p1 p2 p3 (Mo_dividesOnce_181 N_m 0 p1 p2 p3 n) I _ x5 x7 x9 x11 (nI 0 + (-1)) = _
    unfold Mo_dividesOnce_181b
    rw [if_pos (by decide), if_pos (by decide)]
  | k + 1, n + 1, hk, hn => by
    have ih := mrem_181 (I := I) (J := J) (p1 := p1) (p2 := p2) (p3 := p3) (x5 := x5) (x7 := x7) (x9 := x9) (x11 := x11) k n (by omega) (by omega)
    rw [nI_m1, ← ih]
    show Mo_dividesOnce_181b N_m 0 p1 p2 p3 (Mo_dividesOnce_181 N_m 0 p1 p2 p3 n) I _ x5 x7 x9 x11 (nI k) = _
    unfold Mo_dividesOnce_181b Mo_dividesOnce_223
    rw [if_neg (nI_pos (by omega)), mv_11, mv_11, gd_of (tm7 (by omega)), mv_12, va_up_at, nI_clamp (by omega), wrh_lo (by omega)]
    by_cases e : k = 0
    · subst e
      rw [if_pos (by decide), gd_of (tm7 (by decide)), bd_e, up2_va, show x7 * J 7 0 - 0 = rem1 (J 7) (J 8) x5 x7 0 from rfl, wrh_s (by decide)]
    · rw [if_neg (fun q => by rw [Int32.le_iff_toInt_le, i32_0, nI_toInt (by omega)] at q; omega), show nI k - 1 = nI (k - 1) from nI_sub (b := 1) (by omega), gd_of (tm8 (by omega)), gd_of (tm7 (by omega)), bd_e, nI_clamp (by omega), up2_va, va_up_of (show (8 : Nat) ≠ 7 by decide), show x7 * J 7 k - x5 * J 8 (k - 1) = rem1 (J 7) (J 8) x5 x7 k from by unfold rem1; rw [if_neg e], wrh_s (by omega)]
theorem mrem_s {I : HI} {J : HJ} {p1 p2 p3 : Int32} {x5 x7 x9 x11 : Int64} : Mo_dividesOnce_181 N_m 0 p1 p2 p3 256 I J x5 x7 x9 x11 6 = Mo_dividesOnce_181b N_m 0 p1 p2 p3 (fun _ _ _ _ _ _ _ => none) I (va_up J 7 (wrh 0 (J 7) (rem1 (J 7) (J 8) x5 x7))) x5 x7 x9 x11 (-1) := by
  have := mrem_181 (I := I) (J := J) (p1 := p1) (p2 := p2) (p3 := p3) (x5 := x5) (x7 := x7) (x9 := x9) (x11 := x11) 7 256 (by decide) (by decide)
  rw [wrh_7, va_up_id, nI_m1] at this
  exact this
