/-- what a call on the wish leaves as it was -/
def fW (J J' : HJ) (I2 I2' : HI) : Prop := (∀ a, a ≠ 3 → a ≠ 5 → J' a = J a) ∧ ∀ a, a ≠ 4 → I2' a = I2 a
theorem fW_rf {J : HJ} {I2 : HI} : fW J J I2 I2 := ⟨fun _ _ _ => rfl, fun _ _ => rfl⟩
theorem t32 (x : Int32) : x.toInt64.toInt32 = x := by simp
theorem ab1 {w : Nat → Bool} : (ab w 1 + 1 = 3 ∧ be w 1 + 1 = 5) ∨ (ab w 1 + 1 = 5 ∧ be w 1 + 1 = 3) := by
  rcases ab_be (w := w) (p := 1) with ⟨h1, h2⟩ | ⟨h1, h2⟩
  · exact Or.inl ⟨by omega, by omega⟩
  · exact Or.inr ⟨by omega, by omega⟩
theorem wn_i {x : Int32} (h : wn x.toInt64 = true) : -9 ≤ x.toInt ∧ x.toInt ≤ 9 := by
  have := of_decide_eq_true h
  rw [Int32.toInt_toInt64] at this
  exact this
theorem told_ok {w : Nat → Bool} {I2 : HI} {J : HJ} (hW : RW (J (ab w 1 + 1)) (J (be w 1 + 1)) (I2 4)) (p k : Int32) : ∃ r : Int32, Lm_told J (nn w) 0 p k = some r ∧ Mo_told I2 N_m 0 p k = some r := by
  unfold Lm_told Lm_told_0 Mo_told Mo_told_0
  rw [Lm_isPlace_s, Mo_isTwo_s, bn1_s, bn1_s, Lm_isPower_s, Mo_in_6, bn1_s, bn1_s]
  by_cases hp : p = 0 ∨ p = 1
  · rw [decide_eq_true hp, if_neg b2i_t, if_neg b2i_t]
    rcases inb_cases k (n := 7) (by decide) with hb | ⟨m, hm, rfl⟩
    · rw [hb, if_pos b2i_f, if_pos b2i_f]
      exact ⟨_, rfl, rfl⟩
    · rw [inb_nI hm (by decide), if_neg b2i_t, if_neg b2i_t, nv_0_0, mv_4]
      rcases hp with rfl | rfl
      · rw [Pa_side_0s pa_1, bn1_s, gd_of (po_dec pab_1), Po_at_s pab_1, bn1_s, pat_nI hm, show (0 : Int32) = nI 0 from rfl, i7, tm4, gd_of (inb_nI (by omega) (by decide)), nI_clamp (by omega), hW.1 m hm, t32, show 7 * 0 + m = m by omega]
        exact ⟨_, rfl, rfl⟩
      · rw [Pa_side_1s pa_1 (by decide), bn1_s, gd_of (po_dec pbe_1), Po_at_s pbe_1, bn1_s, pat_nI hm, show (1 : Int32) = nI 1 from rfl, i7, tm4, gd_of (inb_nI (by omega) (by decide)), nI_clamp (by omega), hW.2.1 m hm, t32, show 7 * 1 + m = 7 + m by omega]
        exact ⟨_, rfl, rfl⟩
  · rw [decide_eq_false hp, if_pos b2i_f, if_pos b2i_f]
    exact ⟨_, rfl, rfl⟩
theorem tell_ok {w : Nat → Bool} {I2 : HI} {J : HJ} (hW : RW (J (ab w 1 + 1)) (J (be w 1 + 1)) (I2 4)) (p k v : Int32) : ∃ (J' : HJ) (I2' : HI) (r : Int32), Lm_tell (nn w) 0 p k v J = some (J', r) ∧ Mo_tell N_m 0 p k v I2 = some (I2', r) ∧ RW (J' (ab w 1 + 1)) (J' (be w 1 + 1)) (I2' 4) ∧ fW J J' I2 I2' := by
  unfold Lm_tell Lm_tell_0 Mo_tell Mo_tell_0
  rw [Lm_isPlace_s, Mo_isTwo_s, bn1_s, bn1_s, Lm_isPower_s, Mo_in_6, bn1_s, bn1_s, Lm_isWishNumber_s, Mo_in_9, bn1_s, bn1_s]
  by_cases hp : p = 0 ∨ p = 1
  · rw [decide_eq_true hp, if_neg b2i_t, if_neg b2i_t]
    rcases inb_cases k (n := 7) (by decide) with hb | ⟨m, hm, rfl⟩
    · rw [hb, if_pos b2i_f, if_pos b2i_f]
      exact ⟨J, I2, _, rfl, rfl, hW, fW_rf⟩
    · rw [inb_nI hm (by decide), if_neg b2i_t, if_neg b2i_t]
      cases hv : wn v.toInt64 with
      | false =>
        rw [if_pos b2i_f, if_pos b2i_f]
        exact ⟨J, I2, _, rfl, rfl, hW, fW_rf⟩
      | true =>
        have hv9 := wn_i hv
        rw [if_neg b2i_t, if_neg b2i_t, nv_0_0, mv_4]
        rcases hp with rfl | rfl
        · rw [Pa_side_0s pa_1, bn1_s, gd_of (po_dec pab_1), Po_at_s pab_1, bn1_s, pat_nI hm, Po_put_s pab_1, bn1_s, pput_nI hm, show (0 : Int32) = nI 0 from rfl, i7, tm4, gd_of (inb_nI (by omega) (by decide)), bd_e, mv_4, tm4, gd_of (inb_nI (by omega) (by decide)), bd_e, nI_clamp (by omega), hW.1 m hm, t32, show 7 * 0 + m = m by omega]
          refine ⟨_, _, _, rfl, rfl, ?_, ?_⟩
          · have hne : be w 1 + 1 ≠ ab w 1 + 1 := by rcases ab1 (w := w) with ⟨a, b⟩ | ⟨a, b⟩ <;> omega
            rw [va_up_at, va_up_of hne, up2_at]
            refine ⟨fun j hj => ?_, fun j hj => ?_, fun j hj => ?_⟩
            · by_cases e : j = m
              · subst e; rw [va_up_at, va_up_at]
              · rw [va_up_of e, va_up_of e]; exact hW.1 j hj
            · rw [va_up_of (by omega)]; exact hW.2.1 j hj
            · by_cases e : j = m
              · subst e; rw [va_up_at]; exact hv9
              · rw [va_up_of e]; exact hW.2.2 j hj
          · exact ⟨fun a h3 h5 => va_up_of (by rcases ab1 (w := w) with ⟨a, b⟩ | ⟨a, b⟩ <;> omega), fun a h => up2_of h⟩
        · rw [Pa_side_1s pa_1 (by decide), bn1_s, gd_of (po_dec pbe_1), Po_at_s pbe_1, bn1_s, pat_nI hm, Po_put_s pbe_1, bn1_s, pput_nI hm, show (1 : Int32) = nI 1 from rfl, i7, tm4, gd_of (inb_nI (by omega) (by decide)), bd_e, mv_4, tm4, gd_of (inb_nI (by omega) (by decide)), bd_e, nI_clamp (by omega), hW.2.1 m hm, t32, show 7 * 1 + m = 7 + m by omega]
          refine ⟨_, _, _, rfl, rfl, ?_, ?_⟩
          · have hne : ab w 1 + 1 ≠ be w 1 + 1 := by rcases ab1 (w := w) with ⟨a, b⟩ | ⟨a, b⟩ <;> omega
            rw [va_up_at, va_up_of hne, up2_at]
            refine ⟨fun j hj => ?_, fun j hj => ?_, fun j hj => ?_⟩
            · rw [va_up_of (by omega)]; exact hW.1 j hj
            · by_cases e : j = m
              · subst e; rw [va_up_at, va_up_at]
              · rw [va_up_of e, va_up_of (by omega)]; exact hW.2.1 j hj
            · by_cases e : j = 7 + m
              · subst e; rw [va_up_at]; exact hv9
              · rw [va_up_of e]; exact hW.2.2 j hj
          · exact ⟨fun a h3 h5 => va_up_of (by rcases ab1 (w := w) with ⟨a, b⟩ | ⟨a, b⟩ <;> omega), fun a h => up2_of h⟩
  · rw [decide_eq_false hp, if_pos b2i_f, if_pos b2i_f]
    exact ⟨J, I2, _, rfl, rfl, hW, fW_rf⟩
-- turn
def swk (k : Nat) (v : Nat → Int32) : Nat → Int32 := fun j => if j < k then v (7 + j) else if 7 ≤ j ∧ j < 7 + k then v (j - 7) else v j
theorem swk_0 {v : Nat → Int32} : swk 0 v = v := by
  funext j
  unfold swk
  rw [if_neg (by omega), if_neg (by omega)]
theorem swk_s {v : Nat → Int32} {k : Nat} (h : k < 7) : va_up (va_up (swk k v) k (swk k v (7 + k))) (7 + k) (swk k v k) = swk (k + 1) v := by
  have e1 : swk k v (7 + k) = v (7 + k) := by unfold swk; rw [if_neg (by omega), if_neg (by omega)]
  have e2 : swk k v k = v k := by unfold swk; rw [if_neg (by omega), if_neg (by omega)]
  rw [e1, e2]
  funext j
  by_cases h1 : j = 7 + k
  · subst h1
    rw [va_up_at]
    unfold swk
    rw [if_neg (by omega), if_pos (by omega), show 7 + k - 7 = k by omega]
  · rw [va_up_of h1]
    by_cases h2 : j = k
    · subst h2
      rw [va_up_at]
      unfold swk
      rw [if_pos (by omega)]
    · rw [va_up_of h2]
      unfold swk
      by_cases h3 : j < k
      · rw [if_pos h3, if_pos (by omega)]
      · rw [if_neg h3]
        by_cases h4 : 7 ≤ j ∧ j < 7 + k
        · rw [if_pos h4, if_neg (show ¬ j < k + 1 by omega), if_pos (by omega)]
        · rw [if_neg h4, if_neg (show ¬ j < k + 1 by omega), if_neg (by omega)]
theorem s7 (k : Nat) : (7 : Int32) + nI k = nI (7 + k) := by
  rw [show (7 : Int32) = nI 7 from rfl, nI_add]
theorem Mo_turn_s {I : HI} : Mo_turn N_m 0 I = some (va_up I 4 (swk 7 (I 4)), b2i (lawf (zi (swk 7 (I 4)) 0) (zi (swk 7 (I 4)) 1))) := by
  have key := up_loop (fun n I x => Mo_turn_2 N_m 0 n I x) (fun k => va_up I 4 (swk k (I 4))) (some (va_up I 4 (swk 7 (I 4)), b2i (lawf (zi (swk 7 (I 4)) 0) (zi (swk 7 (I 4)) 1)))) 7 (fun n k hk => ?_) (fun n => ?_) 256 0 (by decide) (by decide)
  · rw [swk_0, va_up_id] at key
    exact key
  · show Mo_turn_2b N_m 0 (Mo_turn_2 N_m 0 n) _ (nI k) = _
    unfold Mo_turn_2b
    rw [if_neg (n7 hk), mv_4, tm4, gd_of (inb_nI (by omega) (by decide)), bd_e, mv_4, mv_4, tm4, s7, gd_of (inb_nI (by omega) (by decide)), gd_of (inb_nI (by omega) (by decide)), bd_e, mv_4, tm4, gd_of (inb_nI (by omega) (by decide)), bd_e, nI_clamp (by omega), nI_clamp (by omega), va_up_at, up2_va, up2_va, nI_1, swk_s hk]
  · show Mo_turn_2b N_m 0 (Mo_turn_2 N_m 0 n) _ (nI 7) = _
    unfold Mo_turn_2b
    rw [if_pos (by decide), Mo_isLawful_s, bn1_s, va_up_at]
    cases lawf (zi (swk 7 (I 4)) 0) (zi (swk 7 (I 4)) 1) <;> rfl
theorem RW_law {A B : Nat → Int64} {v : Nat → Int32} (h : RW A B v) : lawf (zl A) (zl B) = lawf (zi v 0) (zi v 1) := lawf_congr (fun j hj => RW_za h hj) (fun j hj => RW_zb h hj)
theorem RW_swk {A B : Nat → Int64} {v : Nat → Int32} (h : RW A B v) : RW B A (swk 7 v) := by
  refine ⟨fun k hk => ?_, fun k hk => ?_, fun k hk => ?_⟩
  · unfold swk; rw [if_pos hk]; exact h.2.1 k hk
  · unfold swk; rw [if_neg (by omega), if_pos (by omega), show 7 + k - 7 = k by omega]; exact h.1 k hk
  · unfold swk
    by_cases h1 : k < 7
    · rw [if_pos h1]; exact h.2.2 (7 + k) (by omega)
    · rw [if_neg h1, if_pos (by omega)]; exact h.2.2 (k - 7) (by omega)
theorem turn_ok {w : Nat → Bool} {I2 : HI} {J : HJ} (hW : RW (J (ab w 1 + 1)) (J (be w 1 + 1)) (I2 4)) : ∃ (I2' : HI) (r : Int32), Lm_turn J 0 (nn w) = some (nn (va_up w 1 (!(w 1))), r) ∧ Mo_turn N_m 0 I2 = some (I2', r) ∧ RW (J (ab (va_up w 1 (!(w 1))) 1 + 1)) (J (be (va_up w 1 (!(w 1))) 1 + 1)) (I2' 4) ∧ fW J J I2 I2' := by
  have hW2 := RW_swk hW
  refine ⟨_, _, ?_, Mo_turn_s, ?_, ?_⟩
  · unfold Lm_turn Lm_turn_0
    rw [nv_0_0, Pa_swap_s pa_1, bn1_s, nv_0_0, Pa_isLawful_s pa_1, bn1_s, ab_swap, be_swap, RW_law hW2]
    cases lawf (zi (swk 7 (I2 4)) 0) (zi (swk 7 (I2 4)) 1) <;> rfl
  · rw [ab_swap, be_swap, va_up_at]
    exact hW2
  · exact ⟨fun _ _ _ => rfl, fun a h => va_up_of h⟩
-- info
theorem RW_da {A B : Nat → Int64} {v : Nat → Int32} (h : RW A B v) : dgb 7 (zl A) = dgb 7 (zi v 0) := dgb_congr 7 (fun _ hj => RW_za h hj)
theorem RW_db {A B : Nat → Int64} {v : Nat → Int32} (h : RW A B v) : dgb 7 (zl B) = dgb 7 (zi v 1) := dgb_congr 7 (fun _ hj => RW_zb h hj)
theorem RW_la {A B : Nat → Int64} {v : Nat → Int32} (h : RW A B v) : lwb 7 0 (zl A) = lwb 7 0 (zi v 0) := lwb_congr 7 0 (fun _ hj => RW_za h (by omega))
theorem RW_lb {A B : Nat → Int64} {v : Nat → Int32} (h : RW A B v) : lwb 7 0 (zl B) = lwb 7 0 (zi v 1) := lwb_congr 7 0 (fun _ hj => RW_zb h (by omega))
theorem b2i_r (b : Bool) : (if b2i b = 0 then some (0 : Int32) else some 1) = some (b2i b) := by cases b <;> rfl
theorem Mo_in_4 (p : Int32) : Mo_in p.toInt64 0 4 = some (b2i (inb p 5)) := by
  rw [Mo_in_s, Int32.toInt_toInt64, show (0 : Int64).toInt = 0 from rfl, show (4 : Int64).toInt = ((4 : Nat) : Int) from rfl, in_nI (by decide)]
/-- what info tells, from 0 to 4 -/
def inf (v : Nat → Int32) (k : Nat) : Int32 := if k = 0 then dgb 7 (zi v 0) else if k = 1 then dgb 7 (zi v 1) else if k = 2 then b2i (lawf (zi v 0) (zi v 1)) else if k = 3 then lwb 7 0 (zi v 0) else lwb 7 0 (zi v 1)
theorem Lm_info_s {w : Nat → Bool} {v : Nat → Int32} {J : HJ} (hW : RW (J (ab w 1 + 1)) (J (be w 1 + 1)) v) {k : Nat} (hk : k < 5) : Lm_info J (nn w) 0 (nI k) = some (inf v k) := by
  unfold Lm_info Lm_info_0
  simp only [nv_0_0, Pa_side_0s pa_1, Pa_side_1s pa_1 (show ¬ (1 : Int32) = 0 by decide), bn1_s, gd_of (po_dec pab_1), gd_of (po_dec pbe_1), Po_degree_s pab_1, Po_degree_s pbe_1, Po_leastPower_s pab_1, Po_leastPower_s pbe_1, Pa_isLawful_s pa_1, RW_da hW, RW_db hW, RW_la hW, RW_lb hW, RW_law hW, b2i_r]
  rcases (show k = 0 ∨ k = 1 ∨ k = 2 ∨ k = 3 ∨ k = 4 by omega) with rfl | rfl | rfl | rfl | rfl <;> rfl
theorem Mo_infoBy_s {I : HI} {k : Nat} (hk : k < 5) : Mo_infoBy I N_m 0 (nI k) = some (inf (I 4) k) := by
  unfold Mo_infoBy Mo_infoBy_0
  rcases (show k = 0 ∨ k = 1 ∨ k = 2 ∨ k = 3 ∨ k = 4 by omega) with rfl | rfl | rfl | rfl | rfl
  · rw [if_pos (by decide), Mo_degree_s (by decide), bn1_s]; rfl
  · rw [if_neg (by decide), if_pos (by decide), Mo_degree_s (by decide), bn1_s]; rfl
  · rw [if_neg (by decide), if_neg (by decide), if_pos (by decide), Mo_isLawful_s, bn1_s, b2i_r]; rfl
  · rw [if_neg (by decide), if_neg (by decide), if_neg (by decide), show nI 3 - 3 = nI 0 from by decide, Mo_lowest_s (by decide), bn1_s]; rfl
  · rw [if_neg (by decide), if_neg (by decide), if_neg (by decide), show nI 4 - 3 = nI 1 from by decide, Mo_lowest_s (by decide), bn1_s]; rfl
theorem info_ok {w : Nat → Bool} {I2 : HI} {J : HJ} (hW : RW (J (ab w 1 + 1)) (J (be w 1 + 1)) (I2 4)) (p : Int32) : ∃ r : Int32, Lm_info J (nn w) 0 p = some r ∧ Mo_info I2 N_m 0 p = some r := by
  rcases inb_cases p (n := 5) (by decide) with hb | ⟨k, hk, rfl⟩
  · refine ⟨-9, ?_, ?_⟩
    · unfold Lm_info Lm_info_0
      have ne : ∀ j : Nat, j < 5 → ¬ p = nI j := fun j hj e => by rw [e, inb_nI hj (by decide)] at hb; cases hb
      rw [if_neg (show ¬ p = 0 from ne 0 (by decide)), if_neg (show ¬ p = 1 from ne 1 (by decide)), if_neg (show ¬ p = 2 from ne 2 (by decide)), if_neg (show ¬ p = 3 from ne 3 (by decide)), if_neg (show ¬ p = 4 from ne 4 (by decide))]
    · unfold Mo_info Mo_info_0
      rw [Mo_in_4, bn1_s, hb, if_pos b2i_f]
  · refine ⟨_, Lm_info_s hW hk, ?_⟩
    unfold Mo_info Mo_info_0
    rw [Mo_in_4, bn1_s, inb_nI hk (by decide), if_neg b2i_t, Mo_infoBy_s hk, bn1_s]
