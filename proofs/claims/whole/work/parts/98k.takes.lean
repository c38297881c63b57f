/-- the reference's value of a row at p over q, times q to the top -/
def va (r : Nat → Int64) (p q : Int64) (t : Nat) : Nat → Int64
  | 0 => 0
  | k + 1 => va r p q t k + r k * pw p k * pw q (t - k)
theorem valueAt_s {J : HJ} {b t : Nat} {p q : Int64} (hb : (Tm b).2 = 7) (ht : tp7 (J b) t) : Mo_valueAt J b p q = some (va (J b) p q t (t + 1)) := by
  have t7' := ht.1
  unfold Mo_valueAt Mo_valueAt_0
  rw [Mo_top_s hb, bn1_s, dgb_tp ht]
  refine up_loop (fun n S y => Mo_valueAt_12 J b p q n (nI t) S y) (fun k => va (J b) p q t k) _ (t + 1) (fun n k hk => ?_) (fun n => ?_) 256 0 (by omega) (by omega)
  · show Mo_valueAt_12b J b p q (Mo_valueAt_12 J b p q n) (nI t) (va (J b) p q t k) (nI k) = _
    unfold Mo_valueAt_12b
    rw [if_neg (nI_nlt (by omega) (by omega)), gd_of (by rw [hb]; exact inb_nI (by omega) (by decide)), Mo_power_s (by omega), bn1_s, nI_sub (by omega), Mo_power_s (by omega), bn1_s, bd_e, nI_clamp (by omega), nI_1]
    rfl
  · show Mo_valueAt_12b J b p q (Mo_valueAt_12 J b p q n) (nI t) (va (J b) p q t (t + 1)) (nI (t + 1)) = _
    unfold Mo_valueAt_12b
    rw [if_pos (nI_lt (by omega) (by omega))]
def Ev : Nat → (Nat → Int) → Int → Int → Int
  | 0, f, _, _ => f 0
  | 1, f, x, y => f 0 * y - f 1 * x
  | 2, f, x, y => f 0 * (y * y) - f 1 * (x * y) + f 2 * (x * x)
  | _, f, x, y => Vv f x y
def py (y : Int) : Nat → Int
  | 0 => 1
  | k + 1 => py y k * y
theorem va_o {r : Nat → Int64} {x y : Int} {t : Nat} (ht : t < 4) : va r (0 - oi x) (oi y) t (t + 1) = oi (Ev t (ri r) x y) := by
  rcases (show t = 0 ∨ t = 1 ∨ t = 2 ∨ t = 3 by omega) with rfl | rfl | rfl | rfl
  · show 0 + r 0 * 1 * 1 = oi (r 0).toInt
    rw [oi_t]; grind
  · show 0 + r 0 * 1 * (1 * oi y) + r 1 * (1 * (0 - oi x)) * 1 = oi ((r 0).toInt * y - (r 1).toInt * x)
    simp only [oi_sub, oi_add, oi_mul, oi_t]
    grind
  · show 0 + r 0 * 1 * (1 * oi y * oi y) + r 1 * (1 * (0 - oi x)) * (1 * oi y) + r 2 * (1 * (0 - oi x) * (0 - oi x)) * 1 = oi ((r 0).toInt * (y * y) - (r 1).toInt * (x * y) + (r 2).toInt * (x * x))
    simp only [oi_sub, oi_add, oi_mul, oi_t]
    grind
  · show 0 + r 0 * 1 * (1 * oi y * oi y * oi y) + r 1 * (1 * (0 - oi x)) * (1 * oi y * oi y) + r 2 * (1 * (0 - oi x) * (0 - oi x)) * (1 * oi y) + r 3 * (1 * (0 - oi x) * (0 - oi x) * (0 - oi x)) * 1 = oi ((r 0).toInt * (y * y * y) - (r 1).toInt * (x * y * y) + (r 2).toInt * (x * x * y) - (r 3).toInt * (x * x * x))
    simp only [oi_sub, oi_add, oi_mul, oi_t]
    grind
theorem Ev_V {f : Nat → Int} {x y : Int} {t : Nat} (ht : t < 4) (hz : ∀ i, t < i → i < 4 → f i = 0) : Ev t f x y * py y (3 - t) = Vv f x y := by
  rcases (show t = 0 ∨ t = 1 ∨ t = 2 ∨ t = 3 by omega) with rfl | rfl | rfl | rfl
  · show f 0 * (1 * y * y * y) = Vv f x y
    unfold Vv
    rw [hz 1 (by decide) (by decide), hz 2 (by decide) (by decide), hz 3 (by decide) (by decide)]
    grind
  · show (f 0 * y - f 1 * x) * (1 * y * y) = Vv f x y
    unfold Vv
    rw [hz 2 (by decide) (by decide), hz 3 (by decide) (by decide)]
    grind
  · show (f 0 * (y * y) - f 1 * (x * y) + f 2 * (x * x)) * (1 * y) = Vv f x y
    unfold Vv
    rw [hz 3 (by decide) (by decide)]
    grind
  · show Vv f x y * 1 = Vv f x y
    grind
theorem py_ne {y : Int} (h : y ≠ 0) : ∀ k, py y k ≠ 0
  | 0 => by show (1 : Int) ≠ 0; decide
  | k + 1 => Int.mul_ne_zero (py_ne h k) h
theorem Ev_b {f : Nat → Int} {x y : Int} {t B : Nat} (ht : t < 4) (hf : ∀ i, i < 4 → (f i).natAbs ≤ B) (hx : x.natAbs ≤ 9) (hy : y.natAbs ≤ 9) : (Ev t f x y).natAbs ≤ B * 2916 := by
  have m1 : ∀ g z : Int, g.natAbs ≤ B → z.natAbs ≤ 9 → (g * z).natAbs ≤ B * 9 := fun g z h1 h2 => by rw [Int.natAbs_mul]; exact Nat.mul_le_mul h1 h2
  have m2 : ∀ g z u : Int, g.natAbs ≤ B → z.natAbs ≤ 9 → u.natAbs ≤ 9 → (g * (z * u)).natAbs ≤ B * 81 := fun g z u h1 h2 h3 => by rw [Int.natAbs_mul, Int.natAbs_mul]; exact Nat.mul_le_mul h1 (Nat.mul_le_mul h2 h3)
  have f0 := hf 0 (by decide)
  have f1 := hf 1 (by decide)
  have f2 := hf 2 (by decide)
  rcases (show t = 0 ∨ t = 1 ∨ t = 2 ∨ t = 3 by omega) with rfl | rfl | rfl | rfl
  · show (f 0).natAbs ≤ _; omega
  · show (f 0 * y - f 1 * x).natAbs ≤ _
    have := m1 _ _ f0 hy
    have := m1 _ _ f1 hx
    omega
  · show (f 0 * (y * y) - f 1 * (x * y) + f 2 * (x * x)).natAbs ≤ _
    have := m2 _ _ _ f0 hy hy
    have := m2 _ _ _ f1 hx hy
    have := m2 _ _ _ f2 hx hx
    omega
  · exact V_b hf hx hy
/-- the value, read in Int -/
theorem vat {J : HJ} {b B : Nat} {x y : Int} {t : Nat} (hb : (Tm b).2 = 7) (ht : tp7 (J b) t) (t4 : t < 4) (hf : ∀ i, i < 4 → lb (J b i) B) (hx : x.natAbs ≤ 9) (hy : y.natAbs ≤ 9) (hB : B * 2916 < 2 ^ 63) : ∃ v : Int64, Mo_valueAt J b (0 - oi x) (oi y) = some v ∧ v.toInt = Ev t (ri (J b)) x y ∧ lb v (B * 2916) ∧ v.toInt * py y (3 - t) = Vv (ri (J b)) x y := by
  have e := Ev_b (x := x) (y := y) t4 (f := ri (J b)) hf hx hy
  have vi : (oi (Ev t (ri (J b)) x y)).toInt = Ev t (ri (J b)) x y := oi_i e hB
  refine ⟨_, valueAt_s hb ht, ?_, ?_, ?_⟩
  · rw [va_o t4, vi]
  · unfold lb; rw [va_o t4, vi]; exact e
  · rw [va_o t4, vi]
    exact Ev_V t4 (fun i h1 h2 => i64_e0.mp (ht.2.2 i h1 (by omega)))
theorem tm11 {k : Nat} (h : k < 7) : inb (nI k) (Tm 11).2 = true := inb_nI h (by decide)
theorem tm12 {k : Nat} (h : k < 7) : inb (nI k) (Tm 12).2 = true := inb_nI h (by decide)
theorem Qr_top {dH e : Nat} {r : Nat → Int64} (h : Qr dH e r) : ∃ t, tp7 r t ∧ t < 4 ∧ t + e ≤ dH := by
  obtain ⟨i0, hi0, hne⟩ := id h.2.2.2
  obtain ⟨t, ht⟩ := top_ex (f := r) 7 (Nat.le_refl 7) (fun i a b => by omega) ⟨i0, by omega, hne⟩
  have t4 : t < 4 := Classical.byContradiction fun q => ht.2.1 (h.2.1 t (by omega) ht.1)
  exact ⟨t, ht, t4, Classical.byContradiction fun q => ht.2.1 (h.2.2.1 t t4 (by omega))⟩
theorem to_38 {U D : Int64} {g : Nat → Int} {L : Nat → Int64} {t B : Nat} (ht : t < 4) (hD : D.toInt ≠ 0) (hg : ∀ k, k < t → (L (k + 1)).toInt = D.toInt * g k + U.toInt * g (k + 1) ∧ (D.toInt * g k).natAbs ≤ B ∧ (g k).natAbs ≤ B) (hB : B < 2 ^ 63) : ∀ (k n : Nat) (J : HJ), k ≤ t → k < n → J 11 = L → (∀ j, k ≤ j → j < t → J 12 j = oi (g j)) → ∃ J1 : HJ, Mo_takesOut_38 N_m 0 (0 - U) D n J (nI t) (oi (g k)) (nI k) = Mo_takesOut_83 N_m 0 (0 - U) D 256 J1 (nI t) 0 ∧ (∀ j, j < t → J1 12 j = oi (g j)) ∧ ∀ q, q ≠ 12 → J1 q = J q := by
  intro k
  induction k with
  | zero =>
    intro n J hk hn hJ h
    obtain ⟨m, rfl⟩ : ∃ m, n = m + 1 := ⟨n - 1, by omega⟩
    refine ⟨J, ?_, fun j hj => h j (by omega) hj, fun _ _ => rfl⟩
    show Mo_takesOut_38b N_m 0 (0 - U) D (Mo_takesOut_38 N_m 0 (0 - U) D m) J (nI t) (oi (g 0)) (nI 0) = _
    unfold Mo_takesOut_38b
    rw [if_pos (by decide)]
  | succ k ih =>
    intro n J hk hn hJ h
    obtain ⟨m, rfl⟩ : ∃ m, n = m + 1 := ⟨n - 1, by omega⟩
    obtain ⟨g1, g2, g3⟩ := hg k (by omega)
    have dv := dv_st g1 hD g2 hB g3
    obtain ⟨J1, c1, c2, c3⟩ := ih m (up2 J 12 k (oi (g k))) (by omega) (by omega) (by rw [up2_of (by decide)]; exact hJ) (fun j h1 h2 => by
      rw [up2_at]
      by_cases e : j = k
      · subst e; rw [va_up_at]
      · rw [va_up_of e]; exact h j (by omega) h2)
    refine ⟨J1, ?_, c2, fun q hq => by rw [c3 q hq, up2_of hq]⟩
    rw [← c1]
    show Mo_takesOut_38b N_m 0 (0 - U) D (Mo_takesOut_38 N_m 0 (0 - U) D m) J (nI t) (oi (g (k + 1))) (nI (k + 1)) = _
    unfold Mo_takesOut_38b
    have e : L (k + 1) + (0 - U) * oi (g (k + 1)) = L (k + 1) - U * oi (g (k + 1)) := by grind
    rw [if_neg (nI_nle (by omega) (by omega)), mv_17, gd_of (tm11 (by omega)), gd_of (decide_eq_true (i64_ne.mpr hD)), bd_e, mv_18, show nI (k + 1) - 1 = nI k from nI_pred k, gd_of (tm12 (by omega)), bd_e, nI_clamp (by omega), nI_clamp (by omega), hJ, e, dv, nI_m1]
theorem to_83 {U D : Int64} {t : Nat} {J : HJ} (ht : t < 4) : Mo_takesOut_83 N_m 0 U D 256 J (nI t) 0 = some (va_up J 11 (va_up (wrk t (J 11) (J 12)) t 0), 1) := by
  have key := up_loop (fun n (S : HJ) y => Mo_takesOut_83 N_m 0 U D n S (nI t) y) (fun k => va_up J 11 (wrk k (J 11) (J 12))) (some (va_up J 11 (va_up (wrk t (J 11) (J 12)) t 0), 1)) t (fun n k hk => ?_) (fun n => ?_) 256 0 (by omega) (by omega)
  · rw [wrk_0, va_up_id] at key
    exact key
  · show Mo_takesOut_83b N_m 0 U D (Mo_takesOut_83 N_m 0 U D n) _ (nI t) (nI k) = _
    unfold Mo_takesOut_83b
    rw [if_neg (nI_ge (by omega) (by omega)), mv_17, mv_18, gd_of (tm12 (by omega)), gd_of (tm11 (by omega)), bd_e, nI_clamp (by omega), up2_va, va_up_of (show (12 : Nat) ≠ 11 by decide), wrk_s, nI_1]
  · show Mo_takesOut_83b N_m 0 U D (Mo_takesOut_83 N_m 0 U D n) _ (nI t) (nI t) = _
    unfold Mo_takesOut_83b
    rw [if_pos (nI_le (Nat.le_refl t) (by omega)), mv_17, gd_of (tm11 (by omega)), bd_e, nI_clamp (by omega), up2_va]
/-- the reference takes a root out, if it is one -/
theorem takesOut_s {a b : Int} {dH e : Nat} {J : HJ} (hR : Ro a b) (hd : dH ≤ 3) (hQ : Qr dH e (J 11)) : (Vv (ri (J 11)) a b ≠ 0 → Mo_takesOut N_m 0 (0 - oi a) (oi b) J = some (J, 0)) ∧ (Vv (ri (J 11)) a b = 0 → ∃ J' : HJ, Mo_takesOut N_m 0 (0 - oi a) (oi b) J = some (J', 1) ∧ Qr dH (e + 1) (J' 11) ∧ Mu a b (ri (J' 11)) (ri (J 11)) ∧ ∀ q, q ≠ 11 → q ≠ 12 → J' q = J q) := by
  obtain ⟨t, ht, t4, te⟩ := Qr_top hQ
  have h1 := hR.1
  have h2 := hR.2.1
  have hb : b ≠ 0 := by omega
  have bb := b91 (e := e) (by omega)
  have ai : (oi a).toInt = a := oi_i (n := 9) (by omega) (by decide)
  have bi : (oi b).toInt = b := oi_i (n := 9) (by omega) (by decide)
  obtain ⟨v, v1, v2, v3, v4⟩ := vat (J := J) (b := 11) (x := a) (y := b) rfl ht t4 hQ.1 (by omega) (by omega) (by omega)
  have vz : v = 0 ↔ Vv (ri (J 11)) a b = 0 := by
    rw [i64_e0, ← v4]
    exact ⟨fun q => by rw [q, Int.zero_mul], fun q => (Int.mul_eq_zero.mp q).resolve_right (py_ne hb _)⟩
  have fne : ∃ i, i < 4 ∧ ri (J 11) i ≠ 0 := by obtain ⟨i, hi, h⟩ := hQ.2.2.2; exact ⟨i, hi, i64_ne.mp h⟩
  have start : Mo_takesOut N_m 0 (0 - oi a) (oi b) J = if nI t < (1 : Int32) then some (J, 0) else if v = 0 then Mo_takesOut_38 N_m 0 (0 - oi a) (oi b) 256 J (nI t) 0 (nI t) else some (J, 0) := by
    unfold Mo_takesOut Mo_takesOut_0
    rw [mv_17, Mo_top_s rfl, bn1_s, dgb_tp ht, mv_17, v1, bn1_s]
  rw [start]
  refine ⟨fun hv => ?_, fun hv => ?_⟩
  · by_cases c : nI t < (1 : Int32)
    · rw [if_pos c]
    · rw [if_neg c, if_neg (fun q => hv (vz.mp q))]
  · have t1 : 1 ≤ t := by
      apply Classical.byContradiction
      intro q
      exact V_const hb fne (fun i h1 h2 => i64_e0.mp (ht.2.2 i (by omega) (by omega))) hv
    rw [if_neg (show ¬ nI t < (1 : Int32) from nI_nlt (b := 1) t1 (by omega)), if_pos (vz.mpr hv)]
    obtain ⟨g, hm, gz⟩ := mu_ex hR.2.2 hb hv
    obtain ⟨g2, g1, g0⟩ := mu_b hm h1 (by omega) (fun i hi => hQ.1 i hi)
    have gt : ∀ i, t ≤ i → i < 4 → g i = 0 := mu_deg hm hb (fun i q1 q2 => i64_e0.mp (ht.2.2 i (by omega) (by omega)))
    have db : ∀ (x : Int) (M : Nat), x.natAbs ≤ M → (b * x).natAbs ≤ 9 * M := fun x M hx => by rw [Int.natAbs_mul]; exact Nat.mul_le_mul (by omega) hx
    have gb : ∀ k, k < t → (J 11 (k + 1)).toInt = (oi b).toInt * g k + (oi a).toInt * g (k + 1) ∧ ((oi b).toInt * g k).natAbs ≤ 9 * (91 * 6782139) ∧ (g k).natAbs ≤ 9 * (91 * 6782139) := by
      intro k hk
      rw [ai, bi]
      obtain ⟨f0, f1, f2, f3, f4⟩ := hm
      rcases (show k = 0 ∨ k = 1 ∨ k = 2 by omega) with rfl | rfl | rfl
      · exact ⟨f1, db _ _ (by omega), by omega⟩
      · exact ⟨f2, db _ _ (by omega), by omega⟩
      · refine ⟨?_, db _ _ (by omega), by omega⟩
        rw [f4, Int.mul_zero, Int.add_zero]; exact f3
    obtain ⟨J1, c1, c2, c3⟩ := to_38 (U := oi a) (D := oi b) (g := g) (L := J 11) t4 (by rw [bi]; exact hb) gb (by decide) t 256 J (Nat.le_refl t) (by omega) rfl (fun j q1 q2 => by omega)
    rw [show (oi (g t)) = (0 : Int64) from by rw [gt t (Nat.le_refl t) t4]; rfl] at c1
    rw [c1, to_83 t4]
    obtain ⟨J', hJ'⟩ : ∃ J' : HJ, J' = va_up J1 11 (va_up (wrk t (J1 11) (J1 12)) t 0) := ⟨_, rfl⟩
    rw [← hJ']
    have bg : ∀ k, k < 4 → (g k).natAbs ≤ 9 * (91 * 6782139) := by
      intro k hk
      by_cases q : k < t
      · exact (gb k q).2.2
      · rw [gt k (by omega) hk]; decide
    have row : ∀ i, i < 4 → (J' 11 i).toInt = g i := by
      intro i hi
      rw [hJ', va_up_at]
      by_cases q : i = t
      · subst q; rw [va_up_at, gt i (Nat.le_refl i) hi]; rfl
      · rw [va_up_of q]
        by_cases q2 : i < t
        · rw [wrk_lt q2, c2 i q2]; exact oi_i (bg i hi) (by decide)
        · rw [wrk_ge (by omega), c3 11 (by decide), gt i (by omega) hi]
          exact i64_e0.mp (ht.2.2 i (by omega) (by omega))
    have hi7 : ∀ i, 4 ≤ i → i < 7 → J' 11 i = 0 := by
      intro i q1 q2
      rw [hJ', va_up_at, va_up_of (by omega), wrk_ge (by omega), c3 11 (by decide)]
      exact ht.2.2 i (by omega) q2
    exact ⟨J', rfl, Qr_mu hQ hR hm row hi7, mu_E' hm (fun i hi => (row i hi).symm), fun q q1 q2 => by rw [hJ', va_up_of q1, c3 q q2]⟩
