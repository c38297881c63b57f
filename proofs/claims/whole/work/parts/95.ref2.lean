/-- the reference lays the value, if it is handy -/
theorem mlay {p x j t : Nat} {P Q : Nat → Int} {I : HI} {J K : HJ} {u d s1 s2 : Int64} {n : Nat} {p3 : Int32} (hp : p < 2) (hxx : x < 2) (hj : j < 6) (h : Iv j P Q (fun i => (J 7 i).toInt) (fun i => (J 8 i).toInt) (J 0 13).toInt (J 0 14).toInt) (hq : tp7 (J 8) t) (ht : t + 1 < 7) (hK : ∀ a, a ≠ 0 → K a = J a) (hI : I 0 8 = nI j) (l1 : lb s1 n) (l2 : lb s2 n) (hn : n < 2 ^ 63) (n2 : ¬ s2 = 0) (hu : s1 / fg s1 s2 = if p = 0 then u else d) (hd : s2 / fg s1 s2 = if p = 0 then d else u) :
    (¬ (u.toInt ≤ 99 ∧ d.toInt ≤ 99) → ∃ J', Mo_dividesOnce_119 N_m 0 (nI p) (nI x) p3 I K (J 7 (t + 1)) (J 8 t) (J 0 13) (J 0 14) 0 s1 s2 = some (I, J', -5) ∧ fJ K J') ∧
    ((u.toInt ≤ 99 ∧ d.toInt ≤ 99) → ∃ (J' : HJ) (c : Nat), Mo_dividesOnce_119 N_m 0 (nI p) (nI x) p3 I K (J 7 (t + 1)) (J 8 t) (J 0 13) (J 0 14) 0 s1 s2 = some (up2 (va_up I 6 (wrs (5 * j) 5 (I 6) (xrow p x u d))) 0 8 (nI (j + 1)), J', 0) ∧ fJ K J' ∧ (∀ i, i < 7 → J' 7 i = J 8 i) ∧ (∀ i, i < 7 → (J' 8 i).toInt * (c : Int) = (J 8 t).toInt * (J 7 i).toInt - (J 7 (t + 1)).toInt * qs (fun i => (J 8 i).toInt) i) ∧ (∀ g : Nat, (∀ i, i < 7 → g ∣ ((J 8 t).toInt * (J 7 i).toInt - (J 7 (t + 1)).toInt * qs (fun i => (J 8 i).toInt) i).natAbs) → g ∣ c) ∧ (c = 0 → ∀ i, i < 7 → (J' 8 i).toInt = 0) ∧ (c ≠ 0 → 0 < (J' 0 14).toInt ∧ (J' 0 13).toInt * ((J 0 13).toInt * c) = (J' 0 14).toInt * ((J 0 14).toInt * (J 8 t).toInt) ∧ (J' 0 13).toInt.natAbs ≤ (J 0 14).toInt.natAbs * (J 8 t).toInt.natAbs ∧ (J' 0 14).toInt.natAbs ≤ (J 0 13).toInt.natAbs * c)) := by
  unfold Mo_dividesOnce_119
  rw [Mo_takes_s l1 l2 hn n2, bn1_s, hu, hd]
  obtain ⟨K1, hK1⟩ : ∃ K1 : HJ, K1 = up2 (up2 K 0 9 (if p = 0 then u else d)) 0 10 (if p = 0 then d else u) := ⟨_, rfl⟩
  rw [← hK1]
  have k9 : K1 0 9 = if p = 0 then u else d := by rw [hK1, up2_at, va_up_of (by decide), up2_at, va_up_at]
  have k10 : K1 0 10 = if p = 0 then d else u := by rw [hK1, up2_at, va_up_at]
  have kf : ∀ a, a ≠ 0 → K1 a = K a := fun a a0 => by rw [hK1, up2_of a0, up2_of a0]
  have hnd : decide ((K1 0 9).toInt ≤ 99 ∧ (K1 0 10).toInt ≤ 99) = decide (u.toInt ≤ 99 ∧ d.toInt ≤ 99) := by
    rw [k9, k10]
    by_cases e : p = 0
    · rw [if_pos e, if_pos e]
    · rw [if_neg e, if_neg e]
      exact decide_eq_decide.mpr ⟨fun q => ⟨q.2, q.1⟩, fun q => ⟨q.2, q.1⟩⟩
  rw [Mo_isHandy_s, bn1_s, hnd]
  have g1 : (K1 0 9).toInt32 = gx p u d := by rw [k9]; unfold gx; by_cases e : p = 0 <;> simp only [e, if_true, if_false]
  have g2 : (K1 0 10).toInt32 = hx p u d := by rw [k10]; unfold hx; by_cases e : p = 0 <;> simp only [e, if_true, if_false]
  refine ⟨fun nh => ?_, fun yh => ?_⟩
  · rw [decide_eq_false nh, if_pos b2i_f]
    exact ⟨K1, rfl, fun a a0 _ _ => kf a a0⟩
  · rw [decide_eq_true yh, if_neg b2i_t, Mo_makes_s (by omega) hI, bn1_s]
    have go : ∀ o, o < 4 → (if p = x then o = 1 else o = 3) → ∃ (J' : HJ) (c : Nat), Mo_dividesOnce_164 N_m 0 (nI p) (nI x) p3 (va_up I 6 (wrs (5 * j) 5 (I 6) (arow (nI x) 0 0 0 0))) K1 (J 7 (t + 1)) (J 8 t) (J 0 13) (J 0 14) 0 (nI o) = some (up2 (va_up I 6 (wrs (5 * j) 5 (I 6) (xrow p x u d))) 0 8 (nI (j + 1)), J', 0) ∧ fJ K J' ∧ (∀ i, i < 7 → J' 7 i = J 8 i) ∧ (∀ i, i < 7 → (J' 8 i).toInt * (c : Int) = (J 8 t).toInt * (J 7 i).toInt - (J 7 (t + 1)).toInt * qs (fun i => (J 8 i).toInt) i) ∧ (∀ g : Nat, (∀ i, i < 7 → g ∣ ((J 8 t).toInt * (J 7 i).toInt - (J 7 (t + 1)).toInt * qs (fun i => (J 8 i).toInt) i).natAbs) → g ∣ c) ∧ (c = 0 → ∀ i, i < 7 → (J' 8 i).toInt = 0) ∧ (c ≠ 0 → 0 < (J' 0 14).toInt ∧ (J' 0 13).toInt * ((J 0 13).toInt * c) = (J' 0 14).toInt * ((J 0 14).toInt * (J 8 t).toInt) ∧ (J' 0 13).toInt.natAbs ≤ (J 0 14).toInt.natAbs * (J 8 t).toInt.natAbs ∧ (J' 0 14).toInt.natAbs ≤ (J 0 13).toInt.natAbs * c) := by
      intro o ho hox
      unfold Mo_dividesOnce_164
      rw [Mo_lays_s (m := j) (by omega) ho (by rw [va_up_of (by decide)]; exact hI), bn1_s, bd_e, va_up_at, va_up_va, va_up_of (show (0 : Nat) ≠ 6 by decide), hI, nI_1, g1, g2]
      have er : va_up (va_up (wrs (5 * j) 5 (I 6) (arow (nI x) 0 0 0 0)) (5 * j + o) (gx p u d)) (5 * j + o + 1) (hx p u d) = wrs (5 * j) 5 (I 6) (xrow p x u d) := by
        unfold xrow
        by_cases e : p = x
        · rw [if_pos e] at hox ⊢; subst hox; exact lay_1
        · rw [if_neg e] at hox ⊢; subst hox; exact lay_3
      rw [er]
      obtain ⟨J', c, e1, e2, e3⟩ := mrest (I := up2 (va_up I 6 (wrs (5 * j) 5 (I 6) (xrow p x u d))) 0 8 (nI (j + 1))) (K := K1) (p1 := nI p) (p2 := nI x) (p3 := p3) hj h hq ht (fun a a0 => (kf a a0).trans (hK a a0))
      exact ⟨J', c, e1, fun a a0 a7 a8 => (e2 a a0 a7 a8).trans (kf a a0), e3⟩
    unfold Mo_dividesOnce_147 Mo_dividesOnce_156
    rcases (show p = 0 ∨ p = 1 by omega) with rfl | rfl <;> rcases (show x = 0 ∨ x = 1 by omega) with rfl | rfl
    · rw [if_pos (by decide), if_pos (by decide), if_pos (by decide)]; exact go 1 (by decide) rfl
    · rw [if_pos (by decide), if_neg (by decide), if_neg (by decide)]; exact go 3 (by decide) rfl
    · rw [if_neg (by decide), if_pos (by decide), if_neg (by decide)]; exact go 3 (by decide) rfl
    · rw [if_neg (by decide), if_neg (by decide), if_pos (by decide)]; exact go 1 (by decide) rfl
theorem mstep_no {s t : Nat} {p1 p2 p3 : Int32} {I : HI} {J : HJ} (hq : tp7 (J 8) t) (hpp : tp7 (J 7) s) (hne : s ≠ t + 1) : Mo_dividesOnce N_m 0 p1 p2 p3 I J = some (I, J, -100 - p3) := by
  have h1 := hq.1
  have h2 := hpp.1
  unfold Mo_dividesOnce Mo_dividesOnce_0
  rw [mv_12, Mo_top_s rfl, bn1_s, mv_11, Mo_top_s rfl, bn1_s, dgb_tp hq, dgb_tp hpp, nI_1, if_neg (fun q => hne ((nI_eq (by omega) (by omega)).mp q))]
theorem mstep_yes {p j t : Nat} {P Q : Nat → Int} {p2 p3 : Int32} {I : HI} {J : HJ} (hp : p < 2) (hj : j < 6) (h : Iv j P Q (fun i => (J 7 i).toInt) (fun i => (J 8 i).toInt) (J 0 13).toInt (J 0 14).toInt) (hq : tp7 (J 8) t) (hpp : tp7 (J 7) (t + 1)) : ∃ (V D : Int64) (n : Nat) (K : HJ), 0 < D.toInt ∧ V.toInt * ((J 0 14).toInt * (J 8 t).toInt) = D.toInt * ((J 0 13).toInt * (J 7 (t + 1)).toInt) ∧ lb V n ∧ lb D n ∧ n < 2 ^ 63 ∧ (∀ a, a ≠ 0 → K a = J a) ∧ (V.toInt ≤ 0 → Mo_dividesOnce N_m 0 (nI p) p2 p3 I J = some (I, K, -100 - p3)) ∧ (0 < V.toInt → Mo_dividesOnce N_m 0 (nI p) p2 p3 I J = Mo_dividesOnce_119 N_m 0 (nI p) p2 p3 I K (J 7 (t + 1)) (J 8 t) (J 0 13) (J 0 14) 0 (if p = 0 then V else D) (if p = 0 then D else V)) := by
  obtain ⟨b1, b2, b3, b4, b5, b6, b7⟩ := bnd_j hj
  obtain ⟨sU0, sD0, sUl, sDl, sDq, _, _⟩ := h.sc ⟨t, hq.1, i64_ne.mp hq.2.1⟩
  have ht := hpp.1
  have lq : (J 8 t).toInt.natAbs ≤ bQ j := h.bq t (by omega)
  have lp : (J 7 (t + 1)).toInt.natAbs ≤ bP j := h.bp (t + 1) ht
  have lsq : (J 0 14).toInt.natAbs * (J 8 t).toInt.natAbs ≤ sUb (j + 1) := sDq t (by omega)
  obtain ⟨K, e1, e2, e3, e4, e5, e6, e7⟩ := Mo_scales_s (J := J) (p1 := J 0 13) (p3 := J 0 14) (p5 := J 7 (t + 1)) (p7 := J 8 t) (a := sUb j) (b := bP j) (c := (J 0 14).toInt.natAbs) (d := (J 8 t).toInt.natAbs) sUl lp (Nat.le_refl _) (Nat.le_refl _) b4 b6 (by omega) (by omega) b1 (by omega) (i64_ne.mpr (by omega)) hq.2.1
  refine ⟨K 0 13, K 0 14, 2 ^ 63 - 1, K, e4, e5, lb_mono e6 (by omega), lb_mono e7 (by omega), by decide, e2, fun hv => ?_, fun hv => ?_⟩
  all_goals
    unfold Mo_dividesOnce Mo_dividesOnce_0
    rw [mv_12, Mo_top_s rfl, bn1_s, mv_11, Mo_top_s rfl, bn1_s, dgb_tp hq, dgb_tp hpp, nI_1, if_pos rfl, mv_11, gd_of (tm7 ht), bd_e, mv_12, gd_of (tm8 (by omega)), bd_e, bd_e, bd_e, nI_clamp (by omega), nI_clamp (by omega), e1, bn1_s, bd_e, bd_e]
  · rw [if_neg (fun q => by have := lt_i.mp q; rw [show (0 : Int64).toInt = 0 from rfl] at this; omega)]
  · rw [if_pos (lt_i.mpr (show (0 : Int64).toInt < (K 0 13).toInt from hv))]
    unfold Mo_dividesOnce_108
    rcases (show p = 0 ∨ p = 1 by omega) with rfl | rfl
    · rw [if_pos (by decide), if_pos (by decide), if_pos rfl, if_pos rfl]
    · rw [if_neg (by decide), if_neg (by decide), if_neg (by decide), if_neg (by decide)]
