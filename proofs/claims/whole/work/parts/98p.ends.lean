/-- what the steps at the poles leave as it was -/
def fP (I I' : HI) (J J' : HJ) (I2 I2' : HI) (J2 J2' : HJ) : Prop := (∀ a, a < 31 ∨ a = 32 ∨ 38 < a → I' a = I a) ∧ (∀ r, r ≠ 50 → r ≠ 51 → r ≠ 52 → J' r = J r) ∧ (∀ a, a ≠ 0 → a ≠ 6 → I2' a = I2 a) ∧ (∀ k, k ≠ 8 → I2' 0 k = I2 0 k) ∧ ∀ q, q ≠ 0 → J2' q = J2 q
theorem fP_id {I : HI} {J : HJ} {I2 : HI} {J2 : HJ} : fP I I J J I2 I2 J2 J2 := ⟨fun _ _ => rfl, fun _ _ _ _ => rfl, fun _ _ _ => rfl, fun _ _ => rfl, fun _ _ => rfl⟩
theorem fP_tr {I I' I'' : HI} {J J' J'' : HJ} {I2 I2' I2'' : HI} {J2 J2' J2'' : HJ} (h : fP I I' J J' I2 I2' J2 J2') (g : fP I' I'' J' J'' I2' I2'' J2' J2'') : fP I I'' J J'' I2 I2'' J2 J2'' := ⟨fun a b => (g.1 a b).trans (h.1 a b), fun a b c d => (g.2.1 a b c d).trans (h.2.1 a b c d), fun a b c => (g.2.2.1 a b c).trans (h.2.2.1 a b c), fun a b => (g.2.2.2.1 a b).trans (h.2.2.2.1 a b), fun a b => (g.2.2.2.2 a b).trans (h.2.2.2.2 a b)⟩
abbrev RLm (m : Nat) (I I2 : HI) : Prop := RL m (I 31 1) (I2 0 8) (fun k => I (33 + k)) (I2 6)
theorem put51 {J : HJ} {gn hn : Int64} (lg : lb gn 9) (lh : lb hn 9) (h0 : ¬ hn = 0) : ∃ J' : HJ, Fr_put 51 gn hn J = some J' ∧ J' 51 0 = gn / fg gn hn ∧ J' 51 1 = hn / fg gn hn ∧ ∀ r, r ≠ 51 → J' r = J r := by
  refine ⟨_, Fr_put_s lg lh (by decide) h0, ?_, ?_, fun r hr => by rw [up2_of hr, up2_of hr]⟩
  · rw [up2_at, va_up_of (by decide), up2_at, va_up_at]
  · rw [up2_at, va_up_at]
theorem ends_1 {x tG tH : Nat} {w : Nat → Bool} {I : HI} {J : HJ} {I2 : HI} {J2 : HJ} (hxx : x < 2) (hG : tp7 (J (ab w 44 + 1)) tG) (hH : tp7 (J (be w 44 + 1)) tH) (h9 : ∀ i, i < 7 → J2 9 i = J (ab w 44 + 1) i ∧ J2 10 i = J (be w 44 + 1) i) (hb : ∀ i, i < 7 → lb (J (ab w 44 + 1) i) 9 ∧ lb (J (be w 44 + 1) i) 9) (hL : RLm 0 I I2) : ∃ (I' : HI) (J' : HJ) (I2' : HI) (J2' : HJ) (r : Int32), Un_poleAtGreatest (nn w) 30 (nI x) I J = some (I', J', r) ∧ Mo_ends N_m 0 (nI (2 + x)) I2 J2 = Mo_ends_84 N_m 0 (nI (2 + x)) I2' J2' r ∧ fP I I' J J' I2 I2' J2 J2' ∧ (r = 0 → ∃ m, m ≤ 1 ∧ RLm m I' I2' ∧ vc (I2' 6) m = m ∧ (m = 1 → tH < tG)) ∧ (r = 0 ∨ r < 0) := by
  have A44 := isPa_ab pa_44 w
  have B44 := isPa_be pa_44 w
  have g7 := hG.1
  have h7 := hH.1
  have m9 : tp7 (J2 9) tG := ⟨hG.1, by rw [(h9 tG hG.1).1]; exact hG.2.1, fun i a b => by rw [(h9 i b).1]; exact hG.2.2 i a b⟩
  have m10 : tp7 (J2 10) tH := ⟨hH.1, by rw [(h9 tH hH.1).2]; exact hH.2.1, fun i a b => by rw [(h9 i b).2]; exact hH.2.2 i a b⟩
  obtain ⟨J', p1, p2, p3, p4⟩ := put51 (J := J) (hb tG g7).1 (hb tH h7).2 hH.2.1
  obtain ⟨f1, f2, f3⟩ := fg_low (hb tG g7).1 (hb tH h7).2 (by decide) hH.2.1
  have cl : Un_poleAtGreatest (nn w) 30 (nI x) I J = if tH < tG then (if tH + 1 < tG then some (I, J', -100) else if 0 < (J' 51 0).toInt then (if (J' 51 0).toInt ≤ 99 ∧ (J' 51 1).toInt ≤ 99 then bn1 (Un_addRising J' (nn w) 30 (nI x) I) (fun I28 => some (I28, J', 0)) else some (I, J', -5)) else some (I, J', -100)) else some (I, J, 0) := by
    unfold Un_poleAtGreatest Un_poleAtGreatest_0 Un_poleAtGreatest_77
    rw [nv_30_2, pa_0 pa_44, Po_degree_s A44, bn1_s, nv_30_2, pa_1' pa_44, Po_degree_s B44, bn1_s, dgb_tp hG, dgb_tp hH]
    by_cases c1 : tH < tG
    · rw [if_pos ((nI_ltI (by omega) (by omega)).mpr c1), if_pos c1, nv_30_4, nv_30_2, pa_0 pa_44, Po_at_s A44, bn1_s, nv_30_2, pa_1' pa_44, Po_at_s B44, bn1_s, pat_nI g7, pat_nI h7, p1, bn1_s, nI_1]
      by_cases c2 : tH + 1 < tG
      · rw [if_pos ((nI_ltI (by omega) (by omega)).mpr c2), if_pos c2]; rfl
      · rw [if_neg (fun q => c2 ((nI_ltI (by omega) (by omega)).mp q)), if_neg c2, nv_30_4]
        by_cases c3 : 0 < (J' 51 0).toInt
        · rw [if_pos (lt_i.mpr (show (0 : Int64).toInt < (J' 51 0).toInt from c3)), if_pos c3, nv_30_4, Fr_isHandy_s c3, bn1_s]
          by_cases c4 : (J' 51 0).toInt ≤ 99 ∧ (J' 51 1).toInt ≤ 99
          · rw [decide_eq_true c4, if_neg b2i_t, if_pos c4]
          · rw [decide_eq_false c4, if_pos b2i_f, if_neg c4]
        · rw [if_neg (fun q => c3 (show (0 : Int64).toInt < (J' 51 0).toInt from lt_i.mp q)), if_neg c3]; rfl
    · rw [if_neg (fun q => c1 ((nI_ltI (by omega) (by omega)).mp q)), if_neg c1]
  have mo : Mo_ends N_m 0 (nI (2 + x)) I2 J2 = if tH < tG then (if tH + 1 < tG then Mo_ends_84 N_m 0 (nI (2 + x)) I2 J2 (-100) else bn3 (Mo_alone N_m 0 (nI (2 + x)) (nI (if 0 = x then 1 else 3)) (nI 0) (J (ab w 44 + 1) tG) (J (be w 44 + 1) tH) I2 J2) (fun I11 J12 r13 => Mo_ends_84 N_m 0 (nI (2 + x)) I11 J12 r13)) else Mo_ends_84 N_m 0 (nI (2 + x)) I2 J2 0 := by
    unfold Mo_ends Mo_ends_0
    rw [mv_15, Mo_top_s rfl, bn1_s, mv_16, Mo_top_s rfl, bn1_s, dgb_tp m9, dgb_tp m10]
    by_cases c1 : tH < tG
    · rw [if_neg (fun q => by rw [nI_leI (by omega) (by omega)] at q; omega), if_pos c1, mv_15, Mo_top_s rfl, bn1_s, mv_16, Mo_top_s rfl, bn1_s, dgb_tp m9, dgb_tp m10, nI_1]
      by_cases c2 : tH + 1 < tG
      · rw [if_neg (fun q => by rw [nI_leI (by omega) (by omega)] at q; omega), if_pos c2]; rfl
      · rw [if_pos ((nI_leI (by omega) (by omega)).mpr (by omega)), if_neg c2]
        have go : ∀ s2 : Int32, Mo_ends_55 N_m 0 (nI (2 + x)) I2 J2 0 (nI (2 + x)) s2 = bn3 (Mo_alone N_m 0 (nI (2 + x)) s2 (nI 0) (J (ab w 44 + 1) tG) (J (be w 44 + 1) tH) I2 J2) (fun I11 J12 r13 => Mo_ends_84 N_m 0 (nI (2 + x)) I11 J12 r13) := by
          intro s2
          unfold Mo_ends_55 Mo_ends_83
          rw [mv_15, mv_15, Mo_top_s rfl, bn1_s, dgb_tp m9, gd_of (tm9 g7), mv_16, mv_16, Mo_top_s rfl, bn1_s, dgb_tp m10, gd_of (tm10 h7), nI_clamp (by omega), nI_clamp (by omega), (h9 tG g7).1, (h9 tH h7).2]
          rfl
        rcases (show x = 0 ∨ x = 1 by omega) with rfl | rfl
        · rw [if_pos (by decide), if_pos rfl]; exact go 1
        · rw [if_neg (by decide), if_neg (by decide)]; exact go 3
    · rw [if_pos ((nI_leI (by omega) (by omega)).mpr (by omega)), if_neg c1]
  have fr : ∀ K : HJ, (∀ q, q ≠ 0 → K q = J2 q) → fP I I J J' I2 I2 J2 K := fun K hK => ⟨fun _ _ => rfl, fun r _ r1 _ => p4 r r1, fun _ _ _ => rfl, fun _ _ => rfl, hK⟩
  rw [cl, mo]
  by_cases c1 : tH < tG
  · rw [if_pos c1, if_pos c1]
    by_cases c2 : tH + 1 < tG
    · rw [if_pos c2, if_pos c2]
      exact ⟨I, J', I2, J2, -100, rfl, rfl, fr J2 (fun _ _ => rfl), fun q => absurd q (by decide), Or.inr (by decide)⟩
    · rw [if_neg c2, if_neg c2]
      obtain ⟨al1, al2, al3⟩ := malone (p := 0) (x := x) (m := 0) (o := if 0 = x then 1 else 3) (I := I2) (J := J2) (by decide) hxx (by decide) hL.2.2.1 rfl (hb tG g7).1 (hb tH h7).2 hG.2.1 hH.2.1
      rw [p2, p3]
      by_cases c3 : 0 < (J (ab w 44 + 1) tG / fg (J (ab w 44 + 1) tG) (J (be w 44 + 1) tH)).toInt
      · rw [if_pos c3]
        by_cases c4 : (J (ab w 44 + 1) tG / fg (J (ab w 44 + 1) tG) (J (be w 44 + 1) tH)).toInt ≤ 99 ∧ (J (be w 44 + 1) tH / fg (J (ab w 44 + 1) tG) (J (be w 44 + 1) tH)).toInt ≤ 99
        · obtain ⟨K, k1, k2⟩ := al3 c3 c4
          obtain ⟨I', a1, a2, a3, a4⟩ := cadd (p := 0) (x := x) (j := 0) (w := w) (I := I) (J := J') (A := I2 6) (by decide) hxx (by decide) p2 p3 hL rfl c3 c4.1 f1 c4.2
          rw [if_pos rfl] at a1
          rw [if_pos c4, a1, bn1_s, k1, bn3_s]
          refine ⟨I', J', _, K, 0, rfl, rfl, ⟨a3, fun r _ r1 _ => p4 r r1, fun a q1 q2 => by rw [up2_of q1, va_up_of q2], fun k hk => by rw [up2_at, va_up_of hk, va_up_of (show (0 : Nat) ≠ 6 by decide)], k2⟩, fun _ => ⟨1, Nat.le_refl 1, ?_, ?_, fun _ => c1⟩, Or.inl rfl⟩
          · unfold RLm
            rw [up2_at, va_up_at, up2_of (by decide), va_up_at]; exact a2
          · rw [up2_of (by decide), va_up_at]; exact a4
        · obtain ⟨K, k1, k2⟩ := al2 c3 c4
          rw [if_neg c4, k1, bn3_s]
          exact ⟨I, J', I2, K, -5, rfl, rfl, fr K k2, fun q => absurd q (by decide), Or.inr (by decide)⟩
      · rw [if_neg c3, al1 c3, bn3_s]
        exact ⟨I, J', I2, J2, -100, rfl, rfl, fr J2 (fun _ _ => rfl), fun q => absurd q (by decide), Or.inr (by decide)⟩
  · rw [if_neg c1, if_neg c1]
    exact ⟨I, J, I2, J2, 0, rfl, rfl, fP_id, fun _ => ⟨0, by decide, hL, rfl, fun q => absurd q (by decide)⟩, Or.inl rfl⟩
theorem ends_2 {x m : Nat} {w : Nat → Bool} {I : HI} {J : HJ} {I2 : HI} {J2 : HJ} (hxx : x < 2) (hm : m ≤ 1) (h9 : ∀ i, i < 7 → J2 9 i = J (ab w 44 + 1) i ∧ J2 10 i = J (be w 44 + 1) i) (hb : ∀ i, i < 7 → lb (J (ab w 44 + 1) i) 9 ∧ lb (J (be w 44 + 1) i) 9) (hL : RLm m I I2) (hv : vc (I2 6) m = m) : ∃ (I' : HI) (J' : HJ) (I2' : HI) (J2' : HJ) (r : Int32), Un_poleAtZero (nn w) 30 (nI x) I J = some (I', J', r) ∧ Mo_ends_84 N_m 0 (nI (2 + x)) I2 J2 0 = some (I2', J2', r) ∧ fP I I' J J' I2 I2' J2 J2' ∧ (r = 0 → ∃ m', RLm m' I' I2' ∧ vc (I2' 6) m' = m' ∧ (m' = m ∨ m' = m + 1 ∧ ¬ J (ab w 44 + 1) 0 = 0)) ∧ (r = 0 ∨ r < 0) := by
  have A44 := isPa_ab pa_44 w
  have B44 := isPa_be pa_44 w
  have z9 := (h9 0 (by decide)).1
  have z10 := (h9 0 (by decide)).2
  have cl : Un_poleAtZero (nn w) 30 (nI x) I J = if J (be w 44 + 1) 0 = 0 then some (I, J, -101) else if J (ab w 44 + 1) 0 = 0 then some (I, J, 0) else bn1 (Fr_put 51 (J (ab w 44 + 1) 0) (J (be w 44 + 1) 0) J) (fun J20 => if (0 : Int64) < J20 51 0 then bn1 (Fr_isHandy J20 51) (fun r25 => if r25 = 0 then some (I, J20, -5) else bn1 (Un_addFalling J20 (nn w) 30 (nI x) I) (fun I28 => some (I28, J20, 0))) else some (I, J20, -101)) := by
    unfold Un_poleAtZero Un_poleAtZero_0
    rw [nv_30_2, pa_1' pa_44, Po_at_s B44, bn1_s, nv_30_2, pa_0 pa_44, Po_at_s A44, bn1_s, nv_30_4, nv_30_2, pa_0 pa_44, Po_at_s A44, bn1_s, nv_30_2, pa_1' pa_44, Po_at_s B44, bn1_s, show pat (J (be w 44 + 1)) 0 = J (be w 44 + 1) 0 from pat_nI (k := 0) (by decide), show pat (J (ab w 44 + 1)) 0 = J (ab w 44 + 1) 0 from pat_nI (k := 0) (by decide)]
    simp only [nv_30_4]
    rfl
  have mo : Mo_ends_84 N_m 0 (nI (2 + x)) I2 J2 0 = if J (be w 44 + 1) 0 = 0 then some (I2, J2, -101) else if J (ab w 44 + 1) 0 = 0 then some (I2, J2, 0) else Mo_alone N_m 0 (nI (2 + x)) (nI (if 1 = x then 1 else 3)) (nI 1) (J (ab w 44 + 1) 0) (J (be w 44 + 1) 0) I2 J2 := by
    unfold Mo_ends_84
    rw [if_pos rfl, mv_16, gd_of (show inb (0 : Int32) (Tm 10).2 = true from tm10 (k := 0) (by decide)), mv_15, gd_of (show inb (0 : Int32) (Tm 9).2 = true from tm9 (k := 0) (by decide))]
    have go : ∀ s2 : Int32, Mo_ends_131 N_m 0 (nI (2 + x)) I2 J2 0 (nI (2 + x)) s2 = Mo_alone N_m 0 (nI (2 + x)) s2 (nI 1) (J (ab w 44 + 1) 0) (J (be w 44 + 1) 0) I2 J2 := by
      intro s2
      unfold Mo_ends_131
      rw [mv_15, gd_of (show inb (0 : Int32) (Tm 9).2 = true from tm9 (k := 0) (by decide)), mv_16, gd_of (show inb (0 : Int32) (Tm 10).2 = true from tm10 (k := 0) (by decide)), bn3_id, show (0 : Int32).toNatClampNeg = 0 from rfl, z9, z10]
      rfl
    rw [go, go, show (0 : Int32).toNatClampNeg = 0 from rfl, z9, z10]
    rcases (show x = 0 ∨ x = 1 by omega) with rfl | rfl
    · rw [if_pos (show nI (2 + 0) = 2 from rfl), if_neg (show ¬ 1 = 0 by decide)]; rfl
    · rw [if_neg (show ¬ nI (2 + 1) = 2 by decide), if_pos (show 1 = 1 from rfl)]; rfl
  rw [cl, mo]
  by_cases c1 : J (be w 44 + 1) 0 = 0
  · rw [if_pos c1, if_pos c1]
    exact ⟨I, J, I2, J2, -101, rfl, rfl, fP_id, fun q => absurd q (by decide), Or.inr (by decide)⟩
  · rw [if_neg c1, if_neg c1]
    by_cases c2 : J (ab w 44 + 1) 0 = 0
    · rw [if_pos c2, if_pos c2]
      exact ⟨I, J, I2, J2, 0, rfl, rfl, fP_id, fun _ => ⟨m, hL, hv, Or.inl rfl⟩, Or.inl rfl⟩
    · rw [if_neg c2, if_neg c2]
      have l1 := (hb 0 (by decide)).1
      have l2 := (hb 0 (by decide)).2
      obtain ⟨J', p1, p2, p3, p4⟩ := put51 (J := J) l1 l2 c1
      obtain ⟨f1, f2, f3⟩ := fg_low l1 l2 (by decide) c1
      obtain ⟨al1, al2, al3⟩ := malone (p := 1) (x := x) (m := m) (o := if 1 = x then 1 else 3) (I := I2) (J := J2) (by decide) hxx (by omega) hL.2.2.1 rfl l1 l2 c2 c1
      have fr : ∀ K : HJ, (∀ q, q ≠ 0 → K q = J2 q) → fP I I J J' I2 I2 J2 K := fun K hK => ⟨fun _ _ => rfl, fun r _ r1 _ => p4 r r1, fun _ _ _ => rfl, fun _ _ => rfl, hK⟩
      rw [p1, bn1_s]
      by_cases c3 : 0 < (J (ab w 44 + 1) 0 / fg (J (ab w 44 + 1) 0) (J (be w 44 + 1) 0)).toInt
      · rw [if_pos (lt_i.mpr (show (0 : Int64).toInt < (J' 51 0).toInt by rw [p2]; exact c3)), Fr_isHandy_s (by rw [p2]; exact c3), bn1_s, p2, p3]
        by_cases c4 : (J (ab w 44 + 1) 0 / fg (J (ab w 44 + 1) 0) (J (be w 44 + 1) 0)).toInt ≤ 99 ∧ (J (be w 44 + 1) 0 / fg (J (ab w 44 + 1) 0) (J (be w 44 + 1) 0)).toInt ≤ 99
        · obtain ⟨K, k1, k2⟩ := al3 c3 c4
          obtain ⟨I', a1, a2, a3, a4⟩ := cadd (p := 1) (x := x) (j := m) (w := w) (I := I) (J := J') (A := I2 6) (by decide) hxx (by omega) p2 p3 hL hv c3 c4.1 f1 c4.2
          rw [if_neg (by decide)] at a1
          rw [decide_eq_true c4, if_neg b2i_t, a1, bn1_s, k1]
          refine ⟨I', J', _, K, 0, rfl, rfl, ⟨a3, fun r _ r1 _ => p4 r r1, fun a q1 q2 => by rw [up2_of q1, va_up_of q2], fun k hk => by rw [up2_at, va_up_of hk, va_up_of (show (0 : Nat) ≠ 6 by decide)], k2⟩, fun _ => ⟨m + 1, ?_, ?_, Or.inr ⟨rfl, c2⟩⟩, Or.inl rfl⟩
          · unfold RLm
            rw [up2_at, va_up_at, up2_of (by decide), va_up_at]; exact a2
          · rw [up2_of (by decide), va_up_at]; exact a4
        · obtain ⟨K, k1, k2⟩ := al2 c3 c4
          rw [decide_eq_false c4, if_pos b2i_f, k1]
          exact ⟨I, J', I2, K, -5, rfl, rfl, fr K k2, fun q => absurd q (by decide), Or.inr (by decide)⟩
      · rw [if_neg (fun q => c3 (by have := lt_i.mp q; rw [p2] at this; exact this)), al1 c3]
        exact ⟨I, J', I2, J2, -101, rfl, rfl, fr J2 (fun _ _ => rfl), fun q => absurd q (by decide), Or.inr (by decide)⟩
