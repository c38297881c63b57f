theorem nI_sub {a b : Nat} (h : b ≤ a) : nI a - nI b = nI (a - b) := by
  rw [show nI a = nI (a - b) + nI b from by rw [nI_add]; exact congrArg nI (by omega), Int32.add_sub_cancel]
theorem tm18 {k : Nat} (h : k < 3) : inb (nI k) (Tm 18).2 = true := inb_nI h (by decide)
theorem tm19 {k : Nat} (h : k < 3) : inb (nI k) (Tm 19).2 = true := inb_nI h (by decide)
theorem tm20 {k : Nat} (h : k < 14) : inb (nI k) (Tm 20).2 = true := inb_nI h (by decide)
theorem tm21 {k : Nat} (h : k < 14) : inb (nI k) (Tm 21).2 = true := inb_nI h (by decide)
theorem mturn_s {J : HJ} : Mo_turnsOver N_m 0 J = some (va_up (va_up J 16 (wrk 14 (J 16) (J 17))) 17 (wrk 14 (J 17) (J 16))) := by
  have key := up_loop (fun n (S : HJ) y => Mo_turnsOver_2 N_m 0 n S y) (fun k => va_up (va_up J 16 (wrk k (J 16) (J 17))) 17 (wrk k (J 17) (J 16))) (some (va_up (va_up J 16 (wrk 14 (J 16) (J 17))) 17 (wrk 14 (J 17) (J 16)))) 14 (fun n k hk => ?_) (fun n => ?_) 256 0 (by decide) (by decide)
  · rw [wrk_0, wrk_0, va_up_id, va_up_id] at key
    exact key
  · show Mo_turnsOver_2b N_m 0 (Mo_turnsOver_2 N_m 0 n) _ (nI k) = _
    unfold Mo_turnsOver_2b
    rw [if_neg (n14 hk), mv_23, gd_of (tm16 hk), bd_e, mv_23, mv_24, gd_of (tm17 hk), gd_of (tm16 hk), bd_e, mv_24, gd_of (tm17 hk), bd_e, nI_clamp (by omega), va_up_at, va_up_of (show (16 : Nat) ≠ 17 by decide), va_up_at, wrk_ge (Nat.le_refl k), wrk_ge (Nat.le_refl k), up2_skip (by decide), wrk_s, up2_va, wrk_s, nI_1]
  · show Mo_turnsOver_2b N_m 0 (Mo_turnsOver_2 N_m 0 n) _ (nI 14) = _
    unfold Mo_turnsOver_2b
    rw [if_pos (by decide)]
theorem madd_16 {J : HJ} {k j n : Nat} {K : HJ → Int32 → Option HJ} {x y : Int64} (hk : k < 14) (hj : j < 3) (hjk : j ≤ k) : Mo_adds_16 N_m 0 K (n + 1) J (nI k) x y (nI j) = Mo_adds_16 N_m 0 K n J (nI k) (x + (J 16 (k - j) * J 19 j + J 17 (k - j) * J 18 j)) (y + J 17 (k - j) * J 19 j) (nI (j + 1)) := by
  show Mo_adds_16b N_m 0 K (Mo_adds_16 N_m 0 K n) J (nI k) x y (nI j) = _
  unfold Mo_adds_16b
  rw [if_neg (n3 hj), if_neg (fun q => by rw [Int32.lt_iff_toInt_lt, nI_toInt (by omega), nI_toInt (by omega)] at q; omega), nI_sub hjk, mv_23, gd_of (tm16 (by omega)), mv_26, gd_of (tm19 hj), mv_24, gd_of (tm17 (by omega)), mv_25, gd_of (tm18 hj), bd_e, mv_24, gd_of (tm17 (by omega)), mv_26, gd_of (tm19 hj), bd_e, nI_clamp (by omega), nI_clamp (by omega), nI_1]
theorem madd_16x {J : HJ} {k j n : Nat} {K : HJ → Int32 → Option HJ} {x y : Int64} (hk : k < 14) (hj : j ≤ 3) (h : j = 3 ∨ k < j) : Mo_adds_16 N_m 0 K (n + 1) J (nI k) x y (nI j) = Mo_adds_94 N_m 0 K J (nI k) x y := by
  show Mo_adds_16b N_m 0 K (Mo_adds_16 N_m 0 K n) J (nI k) x y (nI j) = _
  unfold Mo_adds_16b
  rcases h with rfl | h
  · rw [if_pos (by decide)]
  · by_cases h3 : j = 3
    · subst h3; rw [if_pos (by decide)]
    · rw [if_neg (n3 (show j < 3 by omega)), if_pos (nI_lt h (by omega))]
theorem madd_row {J : HJ} {k : Nat} {K : HJ → Int32 → Option HJ} (hk : k < 14) : Mo_adds_16 N_m 0 K 256 J (nI k) 0 0 0 = Mo_adds_94 N_m 0 K J (nI k) (sA (J 18) (J 19) (J 16) (J 17) k) (c3 (J 17) (J 19) k) := by
  rw [show (0 : Int32) = nI 0 from rfl, madd_16 hk (by decide) (Nat.zero_le k)]
  have z0 : ∀ x : Int64, 0 + x = x := fun x => Int64.zero_add x
  have z1 : ∀ x : Int64, x + 0 = x := fun x => Int64.add_zero x
  unfold sA c3
  by_cases h0 : k = 0
  · rw [madd_16x hk (by decide) (Or.inr (by omega)), if_neg (by omega), if_neg (by omega), if_neg (by omega), if_neg (by omega)]
    simp only [z0, z1, Nat.sub_zero]
    rw [if_neg (by omega), if_neg (by omega), z1, z1]
  · rw [madd_16 hk (by decide) (by omega)]
    by_cases h1 : k = 1
    · rw [madd_16x hk (by decide) (Or.inr (by omega)), if_pos (by omega), if_neg (by omega), if_pos (by omega), if_neg (by omega)]
      rw [if_pos (by omega), if_neg (by omega)]
      simp only [z0, z1, Nat.sub_zero]
      congr 1
      ac_rfl
    · rw [madd_16 hk (by decide) (by omega), madd_16x hk (by decide) (Or.inl rfl), if_pos (by omega), if_pos (by omega), if_pos (by omega), if_pos (by omega), if_pos (by omega), if_pos (by omega)]
      simp only [z0, z1, Nat.sub_zero]
      congr 1
      ac_rfl
theorem madd_2 {J : HJ} : Mo_adds_2 N_m 0 256 J 0 = Mo_adds_117 N_m 0 256 (va_up (va_up J 20 (wrk 14 (J 20) (sA (J 18) (J 19) (J 16) (J 17)))) 21 (wrk 14 (J 21) (c3 (J 17) (J 19)))) 0 := by
  have key := up_loop (fun n (S : HJ) y => Mo_adds_2 N_m 0 n S y) (fun k => va_up (va_up J 20 (wrk k (J 20) (sA (J 18) (J 19) (J 16) (J 17)))) 21 (wrk k (J 21) (c3 (J 17) (J 19)))) (Mo_adds_117 N_m 0 256 (va_up (va_up J 20 (wrk 14 (J 20) (sA (J 18) (J 19) (J 16) (J 17)))) 21 (wrk 14 (J 21) (c3 (J 17) (J 19)))) 0) 14 (fun n k hk => ?_) (fun n => ?_) 256 0 (by decide) (by decide)
  · rw [wrk_0, wrk_0, va_up_id, va_up_id] at key
    exact key
  · show Mo_adds_2b N_m 0 (Mo_adds_2 N_m 0 n) _ (nI k) = _
    unfold Mo_adds_2b
    rw [if_neg (n14 hk), madd_row hk]
    unfold Mo_adds_94
    rw [mv_27, gd_of (tm20 hk), bd_e, mv_28, gd_of (tm21 hk), bd_e, nI_clamp (by omega)]
    have e : ∀ r, r ≠ 20 → r ≠ 21 → va_up (va_up J 20 (wrk k (J 20) (sA (J 18) (J 19) (J 16) (J 17)))) 21 (wrk k (J 21) (c3 (J 17) (J 19))) r = J r := fun r h1 h2 => by rw [va_up_of h2, va_up_of h1]
    rw [e 18 (by decide) (by decide), e 19 (by decide) (by decide), e 16 (by decide) (by decide), e 17 (by decide) (by decide), up2_skip (by decide), wrk_s, up2_va, wrk_s, nI_1]
  · show Mo_adds_2b N_m 0 (Mo_adds_2 N_m 0 n) _ (nI 14) = _
    unfold Mo_adds_2b
    rw [if_pos (by decide)]
theorem madd_117 {J : HJ} : Mo_adds_117 N_m 0 256 J 0 = some (va_up (va_up J 16 (wrk 14 (J 16) (J 20))) 17 (wrk 14 (J 17) (J 21))) := by
  have key := up_loop (fun n (S : HJ) y => Mo_adds_117 N_m 0 n S y) (fun k => va_up (va_up J 16 (wrk k (J 16) (J 20))) 17 (wrk k (J 17) (J 21))) (some (va_up (va_up J 16 (wrk 14 (J 16) (J 20))) 17 (wrk 14 (J 17) (J 21)))) 14 (fun n k hk => ?_) (fun n => ?_) 256 0 (by decide) (by decide)
  · rw [wrk_0, wrk_0, va_up_id, va_up_id] at key
    exact key
  · show Mo_adds_117b N_m 0 (Mo_adds_117 N_m 0 n) _ (nI k) = _
    unfold Mo_adds_117b
    rw [if_neg (n14 hk), mv_23, mv_27, gd_of (tm20 hk), gd_of (tm16 hk), bd_e, mv_24, mv_28, gd_of (tm21 hk), gd_of (tm17 hk), bd_e, nI_clamp (by omega), up2_skip (by decide), va_up_of (show (20 : Nat) ≠ 17 by decide), va_up_of (show (20 : Nat) ≠ 16 by decide), wrk_s, up2_va, va_up_of (show (21 : Nat) ≠ 17 by decide), va_up_of (show (21 : Nat) ≠ 16 by decide), wrk_s, nI_1]
  · show Mo_adds_117b N_m 0 (Mo_adds_117 N_m 0 n) _ (nI 14) = _
    unfold Mo_adds_117b
    rw [if_pos (by decide)]
theorem madd_s {J : HJ} : ∃ J' : HJ, Mo_adds N_m 0 J = some J' ∧ (∀ k, k < 14 → J' 16 k = sA (J 18) (J 19) (J 16) (J 17) k ∧ J' 17 k = c3 (J 17) (J 19) k) ∧ ∀ a, a < 16 ∨ a = 18 ∨ a = 19 ∨ 21 < a → J' a = J a := by
  unfold Mo_adds Mo_adds_0
  rw [madd_2, madd_117]
  refine ⟨_, rfl, fun k hk => ⟨?_, ?_⟩, fun a ha => ?_⟩
  · rw [va_up_of (show (16 : Nat) ≠ 17 by decide), va_up_at, wrk_lt hk, va_up_of (show (20 : Nat) ≠ 21 by decide), va_up_at, wrk_lt hk]
  · rw [va_up_at, wrk_lt hk, va_up_at, wrk_lt hk]
  · rw [va_up_of (by omega), va_up_of (by omega), va_up_of (by omega), va_up_of (by omega)]
theorem marm_l {I : HI} {J : HJ} {p : Int32} {x y z t : Int64} : Mo_armOf_95 I N_m 0 p 256 J x y z t 0 = Mo_armOf_95 I N_m 0 p 253 (va_up (va_up J 18 (wrk 3 (J 18) k00)) 19 (wrk 3 (J 19) k00)) x y z t 3 := by
  have st : ∀ n k, k < 3 → Mo_armOf_95 I N_m 0 p (n + 1) (va_up (va_up J 18 (wrk k (J 18) k00)) 19 (wrk k (J 19) k00)) x y z t (nI k) = Mo_armOf_95 I N_m 0 p n (va_up (va_up J 18 (wrk (k + 1) (J 18) k00)) 19 (wrk (k + 1) (J 19) k00)) x y z t (nI (k + 1)) := by
    intro n k hk
    show Mo_armOf_95b I N_m 0 p (Mo_armOf_95 I N_m 0 p n) _ x y z t (nI k) = _
    unfold Mo_armOf_95b
    rw [if_neg (n3 hk), mv_25, gd_of (tm18 hk), bd_e, mv_26, gd_of (tm19 hk), bd_e, nI_clamp (by omega), up2_skip (by decide), up2_va, nI_1, ← wrk_s (f := J 18) (g := k00), ← wrk_s (f := J 19) (g := k00)]
    rfl
  have h := (st 255 0 (by decide)).trans ((st 254 1 (by decide)).trans (st 253 2 (by decide)))
  rw [wrk_0, wrk_0, va_up_id, va_up_id] at h
  exact h
theorem marm_s {I : HI} {J : HJ} {k : Nat} (hk : k < 6) : ∃ J' : HJ, Mo_armOf I N_m 0 (nI k) J = some J' ∧ (∀ j, j < 3 → J' 18 j = au (I 5) k j ∧ J' 19 j = ad (I 5) k j) ∧ ∀ a, a ≠ 18 → a ≠ 19 → J' a = J a := by
  have main : ∀ x y z t : Int64, ∃ J' : HJ, Mo_armOf_95 I N_m 0 (nI k) 256 J x y z t 0 = some J' ∧ (∀ j, j < 3 → J' 18 j = apu x z t j ∧ J' 19 j = apd x y z t j) ∧ ∀ a, a ≠ 18 → a ≠ 19 → J' a = J a := by
    intro x y z t
    rw [marm_l]
    show ∃ J' : HJ, Mo_armOf_95b I N_m 0 (nI k) (Mo_armOf_95 I N_m 0 (nI k) 252) _ x y z t 3 = some J' ∧ _
    unfold Mo_armOf_95b
    have j3 : ∀ {j : Nat}, j < 3 → j = 0 ∨ j = 1 ∨ j = 2 := fun h => by omega
    have t0 : inb (0 : Int32) (Tm 18).2 = true := tm18 (k := 0) (by decide)
    have t1 : inb (1 : Int32) (Tm 18).2 = true := tm18 (k := 1) (by decide)
    have s0 : inb (0 : Int32) (Tm 19).2 = true := tm19 (k := 0) (by decide)
    have s1 : inb (1 : Int32) (Tm 19).2 = true := tm19 (k := 1) (by decide)
    have s2 : inb (2 : Int32) (Tm 19).2 = true := tm19 (k := 2) (by decide)
    rw [if_pos (by decide)]
    by_cases hz : z = 0
    · rw [if_pos hz, mv_25, gd_of t1, bd_e, mv_26, gd_of s0, bd_e, up2_skip (by decide), up2_va]
      refine ⟨_, rfl, fun j hj => ?_, fun a h1 h2 => by rw [va_up_of h2, va_up_of h1]⟩
      unfold apu apd
      rw [if_pos hz, if_pos hz, va_up_at, va_up_of (show (18 : Nat) ≠ 19 by decide), va_up_at]
      rcases j3 hj with rfl | rfl | rfl <;> exact ⟨rfl, rfl⟩
    · rw [if_neg hz]
      by_cases hx : x = 0
      · rw [if_pos hx, mv_25, gd_of t0, bd_e, mv_26, gd_of s1, bd_e, up2_skip (by decide), up2_va]
        refine ⟨_, rfl, fun j hj => ?_, fun a h1 h2 => by rw [va_up_of h2, va_up_of h1]⟩
        unfold apu apd
        rw [if_neg hz, if_neg hz, if_pos hx, if_pos hx, va_up_at, va_up_of (show (18 : Nat) ≠ 19 by decide), va_up_at]
        rcases j3 hj with rfl | rfl | rfl <;> exact ⟨rfl, rfl⟩
      · rw [if_neg hx, mv_25, gd_of t1, bd_e, mv_26, gd_of s0, bd_e, mv_26, gd_of s2, bd_e, up2_skip (by decide), up2_va, up2_va]
        refine ⟨_, rfl, fun j hj => ?_, fun a h1 h2 => by rw [va_up_of h2, va_up_of h1]⟩
        unfold apu apd
        rw [if_neg hz, if_neg hz, if_neg hx, if_neg hx, va_up_at, va_up_of (show (18 : Nat) ≠ 19 by decide), va_up_at]
        rcases j3 hj with rfl | rfl | rfl <;> exact ⟨rfl, rfl⟩
  unfold Mo_armOf Mo_armOf_0 au ad y3 y5 y7 y9
  rw [mv_5, i5', gd_of (tm5 (by omega)), bd_e, mv_5, nI_clamp (by omega)]
  have c : ∀ j, j < 5 → inb (nI (5 * k) + nI j) (Tm 5).2 = true := fun j hj => by rw [nI_add]; exact tm5 (by omega)
  have d : ∀ j, j < 5 → (nI (5 * k) + nI j).toNatClampNeg = 5 * k + j := fun j hj => by rw [nI_add, nI_clamp (by omega)]
  have c1 : inb (nI (5 * k) + 1) (Tm 5).2 = true := c 1 (by decide)
  have c2 : inb (nI (5 * k) + 2) (Tm 5).2 = true := c 2 (by decide)
  have c3 : inb (nI (5 * k) + 3) (Tm 5).2 = true := c 3 (by decide)
  have c4 : inb (nI (5 * k) + 4) (Tm 5).2 = true := c 4 (by decide)
  have d1 : (nI (5 * k) + 1).toNatClampNeg = 5 * k + 1 := d 1 (by decide)
  have d2 : (nI (5 * k) + 2).toNatClampNeg = 5 * k + 2 := d 2 (by decide)
  have d3 : (nI (5 * k) + 3).toNatClampNeg = 5 * k + 3 := d 3 (by decide)
  have d4 : (nI (5 * k) + 4).toNatClampNeg = 5 * k + 4 := d 4 (by decide)
  by_cases e : I 5 (5 * k) = 0
  · rw [if_pos e, if_pos e, if_pos e, if_pos e, if_pos e]
    unfold Mo_armOf_25 Mo_armOf_45 Mo_armOf_66 Mo_armOf_87
    rw [gd_of c1, bd_e, mv_5, if_pos e, i5', gd_of c2, bd_e, mv_5, if_pos e, gd_of c3, bd_e, mv_5, if_pos e, gd_of c4, bd_e, d1, d2, d3, d4]
    exact main _ _ _ _
  · rw [if_neg e, if_neg e, if_neg e, if_neg e, if_neg e]
    unfold Mo_armOf_25 Mo_armOf_45 Mo_armOf_66 Mo_armOf_87
    rw [gd_of c3, bd_e, mv_5, if_neg e, i5', gd_of c4, bd_e, mv_5, if_neg e, gd_of c1, bd_e, mv_5, if_neg e, gd_of c2, bd_e, d1, d2, d3, d4]
    exact main _ _ _ _
