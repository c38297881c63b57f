theorem neg1_ne {r : Nat} (h : r < 2 ^ 31) : ¬ nI r = -1 := fun q => by
  have := congrArg Int32.toInt q
  rw [nI_toInt h, show (-1 : Int32).toInt = -1 from rfl] at this
  omega
theorem z32 : (0 : Int32).toNatClampNeg = 0 := rfl
/-- once more for a fraction that is there -/
theorem ckeep_80 {w : Nat → Bool} {I : HI} {J : HJ} {a1 r : Nat} (hr : r < 12) : Me_keepOnce_80 (nn w) 64 a1 I J (nI r) = some (up2 I (66 + r) 0 (I (66 + r) 0 + 1), J, nI r) := by
  unfold Me_keepOnce_80
  rw [if_neg (nI_pos (by omega)), if_neg (n12 hr), nv_64_0, gd_of (tc65 hr), nI_clamp (by omega), nv65 hr, gd_of (show inb (0 : Int32) (Tc (66 + r)).2 = true from tc66 (j := 0) hr (by decide)), gd_of (show inb (0 : Int32) (Tc (66 + r)).2 = true from tc66 (j := 0) hr (by decide)), bd_e]
  rfl
theorem mkeep_80 {I : HI} {J : HJ} {r : Nat} (hr : r < 12) : Mo_keep_80 N_m 0 I J (nI r) = some (up2 I 23 r (I 23 r + 1), J, nI r) := by
  unfold Mo_keep_80
  rw [mv_30, gd_of (tm23 hr), gd_of (tm23 hr), bd_e, nI_clamp (by omega)]
theorem ckeep_39 {w : Nat → Bool} {I : HI} {J : HJ} {a1 q : Nat} {x : Nat → Int64} (hq : q < 12) (hc : I 64 2 = nI q) (hx : ∀ k, k < 14 → num (J (ab w 78 + 1)) (J (be w 78 + 1)) k = x k) : Me_keepOnce_39 (nn w) 64 a1 256 I J (nI q) 0 = Me_keepOnce_80 (nn w) 64 a1 (up2 (va_up I (66 + q) (wrs 1 14 (I (66 + q)) (fun j => (x j).toInt32))) 64 2 (nI q + 1)) J (nI q) := by
  have key := up_loop (fun n (S : HI × HJ) y => Me_keepOnce_39 (nn w) 64 a1 n S.1 S.2 (nI q) y) (fun k => (va_up I (66 + q) (wrs 1 k (I (66 + q)) (fun j => (x j).toInt32)), J)) (Me_keepOnce_80 (nn w) 64 a1 (up2 (va_up I (66 + q) (wrs 1 14 (I (66 + q)) (fun j => (x j).toInt32))) 64 2 (nI q + 1)) J (nI q)) 14 (fun n k hk => ?_) (fun n => ?_) 256 0 (by decide) (by decide)
  · rw [wrs_0, va_up_id] at key
    exact key
  · show Me_keepOnce_39b (nn w) 64 a1 (Me_keepOnce_39 (nn w) 64 a1 n) _ _ (nI q) (nI k) = _
    unfold Me_keepOnce_39b
    dsimp only
    rw [if_neg (n14 hk), nv_64_0, gd_of (tc65 hq), nI_clamp (show q < 2 ^ 31 by omega), nv65 hq, nv_64_1, Pa_number_s pa_78 hk, bn1_s, hx k hk, show (1 : Int32) + nI k = nI (1 + k) from nI_add 1 k, gd_of (tc66 hq (by omega)), bd_e, nI_clamp (by omega), up2_va, nI_1, ← wrs_s]
  · show Me_keepOnce_39b (nn w) 64 a1 (Me_keepOnce_39 (nn w) 64 a1 n) _ _ (nI q) (nI 14) = _
    unfold Me_keepOnce_39b
    dsimp only
    rw [if_pos (by decide), bd_e, va_up_of (show (64 : Nat) ≠ 66 + q by omega), hc]
theorem mkeep_51 {I : HI} {J : HJ} {q : Nat} (hq : q < 12) : Mo_keep_51 N_m 0 256 I J (nI q) 0 = Mo_keep_80 N_m 0 (va_up I 22 (wrs (14 * q) 14 (I 22) (I 24))) J (nI q) := by
  have key := up_loop (fun n (S : HI × HJ) y => Mo_keep_51 N_m 0 n S.1 S.2 (nI q) y) (fun k => (va_up I 22 (wrs (14 * q) k (I 22) (I 24)), J)) (Mo_keep_80 N_m 0 (va_up I 22 (wrs (14 * q) 14 (I 22) (I 24))) J (nI q)) 14 (fun n k hk => ?_) (fun n => ?_) 256 0 (by decide) (by decide)
  · rw [wrs_0, va_up_id] at key
    exact key
  · show Mo_keep_51b N_m 0 (Mo_keep_51 N_m 0 n) _ _ (nI q) (nI k) = _
    unfold Mo_keep_51b
    dsimp only
    rw [if_neg (n14 hk), mv_29, mv_32, gd_of (show inb (nI k) (Tm 24).2 = true from inb_nI (by show k < 14; omega) (by decide)), i14, gd_of (tm22 (by omega)), bd_e, nI_clamp (by omega), nI_clamp (by omega), va_up_of (show (24 : Nat) ≠ 22 by decide), up2_va, nI_1, ← wrs_s]
  · show Mo_keep_51b N_m 0 (Mo_keep_51 N_m 0 n) _ _ (nI q) (nI 14) = _
    unfold Mo_keep_51b
    rw [if_pos (by decide)]
/-- what keep leaves as it was -/
def fK (I I' : HI) (J J' : HJ) (I2 I2' : HI) (J2 J2' : HJ) : Prop := (∀ a, a ≠ 64 → (a < 66 ∨ 77 < a) → I' a = I a) ∧ (∀ a, a ≠ 80 → a ≠ 82 → J' a = J a) ∧ (∀ a, a ≠ 0 → a ≠ 22 → a ≠ 23 → a ≠ 24 → I2' a = I2 a) ∧ (∀ k, k ≠ 31 → I2' 0 k = I2 0 k) ∧ ∀ a, a ≠ 16 → a ≠ 17 → J2' a = J2 a
theorem keep_ok {w : Nat → Bool} {I I2 : HI} {J J2 : HJ} {q : Nat} (hW : RW (J (ab w 1 + 1)) (J (be w 1 + 1)) (I2 4)) (hM : RM q (I 64 2) (I2 0 31) (fun k => I (66 + k)) (I2 22) (I2 23)) : ∃ (I' : HI) (J' : HJ) (I2' : HI) (J2' : HJ) (r : Int32) (q' : Nat), Lm_keep (nn w) 0 I J = some (I', J', r) ∧ Mo_keep N_m 0 I2 J2 = some (I2', J2', r) ∧ RM q' (I' 64 2) (I2' 0 31) (fun k => I' (66 + k)) (I2' 22) (I2' 23) ∧ fK I I' J J' I2 I2' J2 J2' := by
  obtain ⟨J1, h1, h2, h3⟩ := numberOf_s (I := I) hW hM.1 hM.2.1
  obtain ⟨I3, J3, g1, g2, g3, g4⟩ := mfound_s (I := I2) (J := J2) hM.1 hM.2.2.1
  obtain ⟨hq, hc, hc2, hrow⟩ := id hM
  rw [fno_c hM] at h1
  have g1' : Mo_found N_m 0 I2 J2 = some (I3, J3, fno (I2 4) (I2 22) q) := g1
  have hc3 : I3 0 31 = nI q := by rw [g3 0 (by decide)]; exact hc2
  unfold Lm_keep Lm_keep_0 Me_keepOnce Me_keepOnce_0 Mo_keep Mo_keep_0 Mo_keep_22
  rw [nv_0_5, nv_0_0, h1, bn2_s, g1', bn3_s]
  have fc : fno (I2 4) (I2 22) q = -1 ∨ ∃ r, r < 0 + q ∧ fno (I2 4) (I2 22) q = nI r := fnd_cases q 0
  rcases fc with e | ⟨r, hr, e⟩
  · rw [e, if_pos rfl, if_pos rfl, hc, hc3]
    by_cases h12 : q < 12
    · rw [if_pos (show nI q < (12 : Int32) from nI_lt (b := 12) h12 (by decide)), if_neg (fun z => by have := (nI_eq (b := 12) (by omega) (by decide)).mp z; omega), if_pos rfl, bd_e, bd_e, bd_e, nv_64_0, gd_of (tc65 h12), nI_clamp (show q < 2 ^ 31 by omega), nv65 h12, gd_of (show inb (0 : Int32) (Tc (66 + q)).2 = true from tc66 (j := 0) h12 (by decide)), bd_e, z32]
      rw [ckeep_39 (x := wx (I2 4)) h12 (by rw [up2_of (by omega)]; exact hc) h2, ckeep_80 h12, bn3_s, mv_30, gd_of (tm23 h12), bd_e, mkeep_51 h12, mkeep_80 h12]
      refine ⟨_, _, _, _, _, q + 1, rfl, rfl, ?_, ?_⟩
      · refine ⟨by omega, ?_, ?_, fun k hk => ?_⟩
        · rw [up2_of (show (64 : Nat) ≠ 66 + q by omega), up2_at, va_up_at, nI_1]
        · rw [up2_of (show (0 : Nat) ≠ 23 by decide), va_up_of (show (0 : Nat) ≠ 22 by decide), up2_of (show (0 : Nat) ≠ 23 by decide), up2_at, va_up_at, nI_1]
        · have eI : ∀ {X : HI} {y : Int32}, (fun k => up2 X (66 + q) 0 y (66 + k)) k = up2 X (66 + q) 0 y (66 + k) := rfl
          by_cases ek : k = q
          · subst ek
            constructor
            · show up2 _ (66 + k) 0 _ (66 + k) 0 = up2 _ 23 k _ 23 k
              refine Eq.trans (b := (0 : Int32) + 1) ?_ (Eq.symm ?_)
              · rw [up2_at, va_up_at, up2_of (show 66 + k ≠ 64 by omega), va_up_at, wrs_out (by omega), up2_at, va_up_at]
              · rw [up2_at, va_up_at, va_up_of (show (23 : Nat) ≠ 22 by decide), up2_at, va_up_at]
            · intro j hj
              dsimp only
              rw [up2_at, va_up_of (show 1 + j ≠ 0 by omega), up2_of (show 66 + k ≠ 64 by omega), va_up_at, wrs_in (by omega), up2_of (show (22 : Nat) ≠ 23 by decide), va_up_at, wrs_in (by omega), show 1 + j - 1 = j by omega, show 14 * k + j - 14 * k = j by omega, up2_of (show (24 : Nat) ≠ 23 by decide), up2_of (show (24 : Nat) ≠ 0 by decide), g2 j hj]
              exact ⟨rfl, (wn_32 (wx_9 hW.2.2 hj)).2⟩
          · obtain ⟨r0, r1⟩ := hrow k (by omega)
            constructor
            · show up2 _ (66 + q) 0 _ (66 + k) 0 = up2 _ 23 q _ 23 k
              rw [up2_of (show 66 + k ≠ 66 + q by omega), up2_of (show 66 + k ≠ 64 by omega), va_up_of (show 66 + k ≠ 66 + q by omega), up2_of (show 66 + k ≠ 66 + q by omega), up2_at, va_up_of ek, va_up_of (show (23 : Nat) ≠ 22 by decide), up2_at, va_up_of ek, up2_of (show (23 : Nat) ≠ 0 by decide), g3 23 (by decide)]
              exact r0
            · intro j hj
              dsimp only
              rw [up2_of (show 66 + k ≠ 66 + q by omega), up2_of (show 66 + k ≠ 64 by omega), va_up_of (show 66 + k ≠ 66 + q by omega), up2_of (show 66 + k ≠ 66 + q by omega), up2_of (show (22 : Nat) ≠ 23 by decide), va_up_at, wrs_out (by omega), up2_of (show (22 : Nat) ≠ 23 by decide), up2_of (show (22 : Nat) ≠ 0 by decide), g3 22 (by decide)]
              exact r1 j hj
      · refine ⟨fun a ha hb => ?_, h3, fun a ha hb hc hd => ?_, fun k hk => ?_, g4⟩
        · rw [up2_of (by omega), up2_of ha, va_up_of (by omega), up2_of (by omega)]
        · rw [up2_of hc, va_up_of hb, up2_of hc, up2_of ha, g3 a hd]
        · rw [up2_of (show (0 : Nat) ≠ 23 by decide), va_up_of (show (0 : Nat) ≠ 22 by decide), up2_of (show (0 : Nat) ≠ 23 by decide), up2_at, va_up_of hk, g3 0 (by decide)]
    · have e12 : q = 12 := by omega
      subst e12
      rw [if_neg (by decide), if_pos (by decide)]
      refine ⟨I, J1, I3, J3, -4, 12, rfl, rfl, ?_, fun _ _ _ => rfl, h3, fun a _ _ _ hd => g3 a hd, fun k _ => by rw [g3 0 (by decide)], g4⟩
      rw [g3 0 (by decide), g3 22 (by decide), g3 23 (by decide)]
      exact hM
  · have hr12 : r < 12 := by omega
    rw [e, if_neg (neg1_ne (by omega)), if_neg (neg1_ne (by omega)), if_neg (neg1_ne (by omega)), ckeep_80 hr12, bn3_s, mkeep_80 hr12]
    refine ⟨_, _, _, _, _, q, rfl, rfl, ?_, ?_⟩
    · refine ⟨hq, ?_, ?_, fun k hk => ?_⟩
      · rw [up2_of (show (64 : Nat) ≠ 66 + r by omega)]; exact hc
      · rw [up2_of (show (0 : Nat) ≠ 23 by decide)]; exact hc3
      · obtain ⟨r0, r1⟩ := hrow k hk
        have r0 : I (66 + k) 0 = I2 23 k := r0
        constructor
        · show up2 I (66 + r) 0 _ (66 + k) 0 = up2 I3 23 r _ 23 k
          by_cases ek : k = r
          · subst ek
            rw [up2_at, va_up_at, up2_at, va_up_at, g3 23 (by decide), r0]
          · rw [up2_of (by omega), up2_at, va_up_of ek, g3 23 (by decide)]
            exact r0
        · intro j hj
          dsimp only
          rw [up2_of (show (22 : Nat) ≠ 23 by decide), g3 22 (by decide)]
          have e9 : up2 I (66 + r) 0 (I (66 + r) 0 + 1) (66 + k) (1 + j) = I (66 + k) (1 + j) := by
            by_cases ek : k = r
            · subst ek; rw [up2_at, va_up_of (by omega)]
            · rw [up2_of (by omega)]
          rw [e9]
          exact r1 j hj
    · refine ⟨fun a ha hb => up2_of (by omega), h3, fun a _ _ hc hd => by rw [up2_of hc, g3 a hd], fun k _ => by rw [up2_of (show (0 : Nat) ≠ 23 by decide), g3 0 (by decide)], g4⟩
