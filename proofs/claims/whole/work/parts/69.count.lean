def nl (z : Nat → Int32) : Nat → Bool := fun s => !(decide (z s = -1))
theorem Sh_notLost_s {w : Nat → Bool} {I : HI} : Sh_notLost I (nn w) 83 = some (nI (cnt (nl (I 88)) 3)) := by
  unfold Sh_notLost Sh_notLost_0
  refine up_loop (fun n S y => Sh_notLost_4 I (nn w) 83 n S y) (fun k => nI (cnt (nl (I 88)) k)) (some (nI (cnt (nl (I 88)) 3))) 3 (fun n k hk => ?_) (fun n => ?_) 256 0 (by decide) (by decide)
  · show Sh_notLost_4b I (nn w) 83 (Sh_notLost_4 I (nn w) 83 n) _ (nI k) = Sh_notLost_4 I (nn w) 83 n (nI (cnt (nl (I 88)) (k + 1))) (nI (k + 1))
    unfold Sh_notLost_4b Sh_notLost_23
    rw [if_neg (n3 hk), Sh_isLost_s hk, bn1_s, show nI k + 1 = nI (k + 1) from nI_add k 1]
    by_cases e : I 88 k = -1
    · rw [decide_eq_true e, if_neg b2i_t, bd_e, cnt_f (p := nl (I 88)) (by unfold nl; rw [decide_eq_true e]; rfl), Int32.add_zero]
    · rw [decide_eq_false e, if_pos b2i_f, bd_e, cnt_t (p := nl (I 88)) (by unfold nl; rw [decide_eq_false e]; rfl), show nI (cnt (nl (I 88)) k) + 1 = nI (cnt (nl (I 88)) k + 1) from nI_add _ 1]
  · show Sh_notLost_4b I (nn w) 83 (Sh_notLost_4 I (nn w) 83 n) _ (nI 3) = _
    unfold Sh_notLost_4b
    rw [if_pos (by decide)]
theorem Mo_sheets_s {I : HI} : Mo_sheets I N_m 0 = some (nI (cnt (nl (I 1)) 3)) := by
  unfold Mo_sheets Mo_sheets_0
  refine up_loop (fun n S y => Mo_sheets_4 I N_m 0 n S y) (fun k => nI (cnt (nl (I 1)) k)) (some (nI (cnt (nl (I 1)) 3))) 3 (fun n k hk => ?_) (fun n => ?_) 256 0 (by decide) (by decide)
  · show Mo_sheets_4b I N_m 0 (Mo_sheets_4 I N_m 0 n) _ (nI k) = Mo_sheets_4 I N_m 0 n (nI (cnt (nl (I 1)) (k + 1))) (nI (k + 1))
    unfold Mo_sheets_4b Mo_sheets_25
    rw [if_neg (n3 hk), mv_1, gd_of (tm1 hk), nI_clamp (by omega), show nI k + 1 = nI (k + 1) from nI_add k 1]
    by_cases e : I 1 k = -1
    · rw [if_pos e, bd_e, cnt_f (p := nl (I 1)) (by unfold nl; rw [decide_eq_true e]; rfl), Int32.add_zero]
    · rw [if_neg e, bd_e, cnt_t (p := nl (I 1)) (by unfold nl; rw [decide_eq_false e]; rfl), show nI (cnt (nl (I 1)) k) + 1 = nI (cnt (nl (I 1)) k + 1) from nI_add _ 1]
  · show Mo_sheets_4b I N_m 0 (Mo_sheets_4 I N_m 0 n) _ (nI 3) = _
    unfold Mo_sheets_4b
    rw [if_pos (by decide)]
theorem cnt_congr {p r : Nat → Bool} : ∀ n, (∀ x, x < n → p x = r x) → cnt p n = cnt r n
  | 0, _ => rfl
  | n + 1, h => by
    show cnt p n + (if p n = true then 1 else 0) = cnt r n + (if r n = true then 1 else 0)
    rw [cnt_congr n (fun x hx => h x (by omega)), h n (by omega)]
theorem count_ok {w : Nat → Bool} {I I2 : HI} {J J2 : HJ} {m q : Nat} (hL : RL m (I 6 1) (I2 0 6) (fun k => I (8 + k)) (I2 5)) (hW : RW (J (ab w 1 + 1)) (J (be w 1 + 1)) (I2 4)) (hF : m ≠ 0 → RR 7 (J (ab w 15 + 1)) (J (be w 15 + 1)) (FO (I2 5) m)) (hB : RB I (I2 5) (2 * m)) (hM : RM q (I 64 2) (I2 0 31) (fun k => I (66 + k)) (I2 22) (I2 23)) (hS : RS (I 88) (I2 1) (fun s => J (85 + s)) (J2 2)) (hf : I 0 8 = I2 0 0) (p : Int32) : ∃ (J2' : HJ) (r : Int32), Lm_count I J (nn w) 0 p = some r ∧ Mo_count I2 N_m 0 p J2 = some (J2', r) ∧ fM J2 J2' := by
  have rf : fM J2 J2 := fun _ _ => rfl
  obtain ⟨hm, hc, hc2, hrow, ha, hv⟩ := id hL
  unfold Lm_count Lm_count_0 Mo_count Mo_count_0
  by_cases p0 : p = 0
  · rw [if_pos p0, if_pos p0, nv_0_1]
    exact ⟨J2, _, rfl, by rw [hc, hc2], rf⟩
  rw [if_neg p0, if_neg p0]
  by_cases p1 : p = 1
  · rw [if_pos p1, if_pos p1, nv_0_1, La_valueCount_s la_6 hm hc hrow, bn1_s, mv_5, hc2, Mo_valuesIn_s (by show 5 * m ≤ 30; omega) (by decide) (by omega) ha, bn1_s]
    exact ⟨J2, _, rfl, rfl, rf⟩
  rw [if_neg p1, if_neg p1]
  by_cases p2 : p = 2
  · rw [if_pos p2, if_pos p2, nv_0_0, Pa_isLawful_s pa_1, bn1_s, Mo_isLawful_s, bn1_s, ← lawf_congr (fun j hj => RW_za hW hj) (fun j hj => RW_zb hW hj)]
    cases lawf (zl (J (ab w 1 + 1))) (zl (J (be w 1 + 1)))
    · exact ⟨J2, 0, if_pos b2i_f, if_pos b2i_f, rf⟩
    · exact ⟨J2, 1, if_neg b2i_t, if_neg b2i_t, rf⟩
  rw [if_neg p2, if_neg p2]
  by_cases p3 : p = 3
  · rw [if_pos p3, if_pos p3, nv_0_4, show Mo_parts I2 N_m 0 1 = some (nI (cnt (fsb (I2 5) true) (2 * m))) from Mo_parts_s (q := true) hm hc2 ha, bn1_s, hB.1]
    exact ⟨J2, _, rfl, rfl, rf⟩
  rw [if_neg p3, if_neg p3]
  by_cases p4 : p = 4
  · rw [if_pos p4, if_pos p4, nv_0_5, hM.2.1, hM.2.2.1]
    exact ⟨J2, _, rfl, rfl, rf⟩
  rw [if_neg p4, if_neg p4]
  by_cases p5 : p = 5
  · rw [if_pos p5, if_pos p5, nv_0_5, Me_timesOfAll_s hM.1 hM.2.1, bn1_s, Mo_keptAll_s hM.1 hM.2.2.1, bn1_s, sumk_congr q (fun j hj => (hM.2.2.2 j hj).1)]
    exact ⟨J2, _, rfl, rfl, rf⟩
  rw [if_neg p5, if_neg p5]
  by_cases p6 : p = 6
  · obtain ⟨J2', r, h1, h2, h3⟩ := alike_ok (J2 := J2) hL hW hF
    rw [if_pos p6, if_pos p6, h1, bn1_s, h2, bn2_s]
    exact ⟨J2', r, rfl, rfl, h3⟩
  rw [if_neg p6, if_neg p6]
  by_cases p7 : p = 7
  · rw [if_pos p7, if_pos p7, nv_0_6, Sh_notLost_s, bn1_s, Mo_sheets_s, bn1_s, cnt_congr (p := nl (I 88)) (r := nl (I2 1)) 3 (fun x hx => by unfold nl; rw [(hS x hx).1])]
    exact ⟨J2, _, rfl, rfl, rf⟩
  rw [if_neg p7, if_neg p7]
  by_cases p8 : p = 8
  · rw [if_pos p8, if_pos p8, hf]
    exact ⟨J2, _, rfl, rfl, rf⟩
  rw [if_neg p8, if_neg p8]
  exact ⟨J2, _, rfl, rfl, rf⟩
