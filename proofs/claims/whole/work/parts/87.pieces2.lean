theorem goOn_s {w : Nat → Bool} {J : HJ} {s : Int32} : ∃ J' : HJ, Pa_goOn 39 51 s J (nn w) = some (J', nn (va_up w 39 (!(w 39)))) ∧ RR 7 (J' (ab w 39 + 1)) (J' (be w 39 + 1)) (fun k => J (ab w 39 + 1) k * J 51 1 - J 51 0 * pat (J (be w 39 + 1)) (nI k - s), fun k => J (be w 39 + 1) k * J 51 1) ∧ ∀ r, r ≠ 41 → r ≠ 43 → J' r = J r := by
  have q1 := ab_be (w := w) (p := 39)
  have pA := isPa_ab pa_39 w
  have pB := isPa_be pa_39 w
  unfold Pa_goOn Pa_goOn_0
  rw [pa_0 pa_39, Po_multiplyBy_s pA, bn1_s]
  obtain ⟨F, hF⟩ : ∃ F : Nat → Int64, F = wrk 7 (J (ab w 39 + 1)) (fun i => J (ab w 39 + 1) i * J 51 1) := ⟨_, rfl⟩
  rw [← hF]
  have Fk : ∀ k, k < 7 → F k = J (ab w 39 + 1) k * J 51 1 := fun k hk => by rw [hF, wrk_lt hk]
  have o51 : (51 : Nat) ≠ ab w 39 + 1 := by omega
  have obe : be w 39 + 1 ≠ ab w 39 + 1 := by omega
  have key := up_loop (fun n (S : HJ) y => Pa_goOn_13 39 51 s n S (nn w) y) (fun k => va_up J (ab w 39 + 1) (wrk k F (fun k => F k - J 51 0 * pat (J (be w 39 + 1)) (nI k - s)))) (Pa_goOn_13b 39 51 s (fun _ _ _ => none) (va_up J (ab w 39 + 1) (wrk 7 F (fun k => F k - J 51 0 * pat (J (be w 39 + 1)) (nI k - s)))) (nn w) (nI 7)) 7 (fun n k hk => ?_) (fun n => ?_) 256 0 (by decide) (by decide)
  · rw [wrk_0] at key
    have key' : Pa_goOn_13 39 51 s 256 (va_up J (ab w 39 + 1) F) (nn w) 0 = _ := key
    rw [key']
    unfold Pa_goOn_13b
    rw [if_pos (by decide), pa_1' pa_39, Po_multiplyBy_s pB, bn1_s, Pa_swap_s pa_39, bn1_s]
    refine ⟨_, rfl, ⟨fun k hk => ?_, fun k hk => ?_⟩, fun r h1 h2 => by rw [va_up_of (by omega), va_up_of (by omega)]⟩
    · rw [va_up_of (Ne.symm obe), va_up_at, wrk_lt hk, Fk k hk]
    · rw [va_up_at, wrk_lt hk, va_up_of obe, va_up_of o51]
  · show Pa_goOn_13b 39 51 s (Pa_goOn_13 39 51 s n) _ (nn w) (nI k) = _
    unfold Pa_goOn_13b
    rw [if_neg (n7 hk), pa_0 pa_39, pa_0 pa_39, Po_at_s pA, bn1_s, pa_1' pa_39, Po_at_s pB, bn1_s, Po_put_s pA, bn1_s, va_up_at, pat_nI hk, wrk_ge (Nat.le_refl k), va_up_of obe, va_up_of o51, pput_nI hk, va_up_va, nI_1, wrk_s (g := fun k => F k - J 51 0 * pat (J (be w 39 + 1)) (nI k - s))]
  · show Pa_goOn_13b 39 51 s (Pa_goOn_13 39 51 s n) _ (nn w) (nI 7) = _
    unfold Pa_goOn_13b
    rw [if_pos (by decide), if_pos (by decide)]
theorem endOf_0 {a : Nat} {w : Nat → Bool} {J : HJ} (h : isPo a) : Un_endOf J (nn w) a 0 = some (lwb 7 0 (zl (J (a + 1)))) := by
  unfold Un_endOf Un_endOf_0
  rw [if_pos rfl, Po_leastPower_s h, bn1_s]
theorem endOf_1 {a : Nat} {w : Nat → Bool} {J : HJ} (h : isPo a) : Un_endOf J (nn w) a 1 = some (dgb 7 (zl (J (a + 1)))) := by
  unfold Un_endOf Un_endOf_0
  rw [if_neg (by decide), Po_degree_s h, bn1_s]
/-- the class's row and the reference's row of one more arm built -/
theorem built_add {w : Nat → Bool} {I : HI} {A : Nat → Int32} {m : Nat} {p u v x y : Int32} (hc : I 31 1 = nI m) (hr : ∀ k, k < m → ∀ j, j < 5 → I (33 + k) j = A (5 * k + j)) (ha : ∀ k, k < m → aok A k) (hp : p = 0 ∨ p = 1) (h1 : vok u v) (h2 : vok x y) (h3 : ¬ (u = 0 ∧ x = 0)) (hs : vc A m + (v1 u + v1 x) ≤ 6) : ∃ I' : HI, La_add (nn w) 31 p u v x y I = some (I', 1) ∧ RL (m + 1) (I' 31 1) (nI (m + 1)) (fun k => I' (33 + k)) (wrs (5 * m) 5 A (arow p u v x y)) ∧ ∀ a, a < 31 ∨ a = 32 ∨ 38 < a → I' a = I a := by
  have hv : vc A m ≤ 6 := by omega
  have h1v : 1 ≤ v1 u + v1 x := by
    unfold v1
    by_cases ea : u = 0
    · rw [if_neg (show ¬ x = 0 from fun q => h3 ⟨ea, q⟩)]; omega
    · rw [if_neg ea]; omega
  have h6 : m < 6 := by have := vc_ge m ha; omega
  rw [La_add_s la_31 hc hr ha hv, if_pos ⟨hs, h6⟩]
  refine ⟨_, rfl, ⟨by omega, by rw [up2_at, va_up_at], rfl, fun k hk j hj => ?_, fun k hk => ?_, ?_⟩, fun a h => by rw [up2_of (by omega), va_up_of (by omega)]⟩
  · show up2 (va_up I (31 + 2 + m) _) 31 1 _ (33 + k) j = _
    rw [up2_of (by omega)]
    by_cases ek : k = m
    · subst ek
      rw [show 33 + k = 31 + 2 + k by omega, va_up_at, wrs_in (by omega), arow_v hj]; rfl
    · rw [va_up_of (by omega), arow_lo (by omega)]
      exact hr k (by omega) j hj
  · by_cases eq : k = m
    · subst eq
      have f0 := arow_v (p := p) (u := u) (v := v) (x := x) (y := y) (A := A) (m := k) (j := 0) (by decide)
      have f1 := arow_v (p := p) (u := u) (v := v) (x := x) (y := y) (A := A) (m := k) (j := 1) (by decide)
      have f2 := arow_v (p := p) (u := u) (v := v) (x := x) (y := y) (A := A) (m := k) (j := 2) (by decide)
      have f3 := arow_v (p := p) (u := u) (v := v) (x := x) (y := y) (A := A) (m := k) (j := 3) (by decide)
      have f4 := arow_v (p := p) (u := u) (v := v) (x := x) (y := y) (A := A) (m := k) (j := 4) (by decide)
      rw [Nat.add_zero] at f0
      unfold aok
      rw [f0, f1, f2, f3, f4]
      exact ⟨hp, h1, h2, h3⟩
    · exact aok_congr (fun j hj => (arow_lo (by omega)).symm) (ha k (by omega))
  · show vc _ m + (v1 (wrs (5 * m) 5 A (arow p u v x y) (5 * m + 1)) + v1 (wrs (5 * m) 5 A (arow p u v x y) (5 * m + 3))) ≤ 6
    rw [vc_congr (B := A) m (fun j hj => arow_lo hj), arow_v (j := 1) (by decide), arow_v (j := 3) (by decide)]
    exact hs
