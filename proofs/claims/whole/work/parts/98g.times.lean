/-- a row that holds what e divisions have left -/
def Qr (dH e : Nat) (r : Nat → Int64) : Prop := (∀ i, i < 4 → lb (r i) (9 * 91 ^ e)) ∧ (∀ i, 4 ≤ i → i < 7 → r i = 0) ∧ (∀ i, i < 4 → dH < i + e → r i = 0) ∧ ∃ i, i < 4 ∧ ¬ r i = 0
abbrev ri (r : Nat → Int64) : Nat → Int := fun i => (r i).toInt
theorem Qr_e {dH e : Nat} {r : Nat → Int64} (h : Qr dH e r) : e ≤ dH := by
  obtain ⟨i, hi, hne⟩ := h.2.2.2
  by_cases q : dH < i + e
  · exact absurd (h.2.2.1 i hi q) hne
  · omega
def Ot (a b : Int) (f g : Nat → Int) : Prop := ∀ c d, Ro c d → ¬ (c = a ∧ d = b) → (Vv f c d = 0 ↔ Vv g c d = 0) ∧ (Vv f c d = 0 → (Dd f c d = 0 ↔ Dd g c d = 0))
theorem Ot_id {a b : Int} {f : Nat → Int} : Ot a b f f := fun _ _ _ _ => ⟨Iff.rfl, fun _ => Iff.rfl⟩
theorem Ot_tr {a b : Int} {f g k : Nat → Int} (h : Ot a b f g) (h' : Ot a b g k) : Ot a b f k := fun c d r n => ⟨(h c d r n).1.trans (h' c d r n).1, fun v => ((h c d r n).2 v).trans ((h' c d r n).2 ((h c d r n).1.mp v))⟩
theorem mu_Ot {a b : Int} {f g : Nat → Int} (h : Ro a b) (m : Mu a b g f) : Ot a b f g := by
  intro c d r n
  have d0 : d ≠ 0 := by have := r.1; omega
  have L : a * d - b * c ≠ 0 := ro_ne h r (fun q => n ⟨q.1.symm, q.2.symm⟩)
  have v := mu_V (x := c) (y := d) m
  have e := mu_D (x := c) (y := d) m
  have vi : Vv f c d = 0 ↔ Vv g c d = 0 := by
    constructor
    · intro q
      rw [q, Int.mul_zero] at v
      exact (Int.mul_eq_zero.mp v.symm).resolve_left L
    · intro q
      rw [q, Int.mul_zero] at v
      exact (Int.mul_eq_zero.mp v).resolve_left d0
  refine ⟨vi, fun q => ?_⟩
  rw [vi.mp q, Int.mul_zero, Int.zero_add] at e
  constructor
  · intro z
    rw [z, Int.mul_zero] at e
    exact (Int.mul_eq_zero.mp e.symm).resolve_left L
  · intro z
    rw [z, Int.mul_zero] at e
    exact (Int.mul_eq_zero.mp e).resolve_left d0
theorem mu_deg {a b : Int} {f g : Nat → Int} {d : Nat} (m : Mu a b g f) (hb : b ≠ 0) (hz : ∀ i, d + 1 ≤ i → i < 4 → f i = 0) : ∀ i, d ≤ i → i < 4 → g i = 0 := by
  obtain ⟨f0, f1, f2, f3, f4⟩ := m
  have z2 : d ≤ 2 → g 2 = 0 := fun h => (Int.mul_eq_zero.mp (f3.symm.trans (hz 3 (by omega) (by omega)))).resolve_left hb
  have z1 : d ≤ 1 → g 1 = 0 := fun h => by
    have := hz 2 (by omega) (by omega)
    rw [f2, z2 (by omega), Int.mul_zero, Int.add_zero] at this
    exact (Int.mul_eq_zero.mp this).resolve_left hb
  have z0 : d ≤ 0 → g 0 = 0 := fun h => by
    have := hz 1 (by omega) (by omega)
    rw [f1, z1 (by omega), Int.mul_zero, Int.add_zero] at this
    exact (Int.mul_eq_zero.mp this).resolve_left hb
  intro i h1 h2
  rcases (show i = 0 ∨ i = 1 ∨ i = 2 ∨ i = 3 by omega) with rfl | rfl | rfl | rfl
  · exact z0 h1
  · exact z1 h1
  · exact z2 h1
  · exact f4
theorem mu_ne {a b : Int} {f g : Nat → Int} (m : Mu a b g f) (h : ∃ i, i < 4 ∧ f i ≠ 0) : ∃ i, i < 4 ∧ g i ≠ 0 := by
  obtain ⟨f0, f1, f2, f3, f4⟩ := m
  obtain ⟨i, hi, hne⟩ := h
  apply Classical.byContradiction
  intro q
  have z : ∀ i, i < 4 → g i = 0 := fun i hi => Classical.byContradiction fun w => q ⟨i, hi, w⟩
  apply hne
  rcases (show i = 0 ∨ i = 1 ∨ i = 2 ∨ i = 3 by omega) with rfl | rfl | rfl | rfl
  · rw [f0, z 0 (by decide), Int.mul_zero]
  · rw [f1, z 0 (by decide), z 1 (by decide), Int.mul_zero, Int.mul_zero]; rfl
  · rw [f2, z 1 (by decide), z 2 (by decide), Int.mul_zero, Int.mul_zero]; rfl
  · rw [f3, z 2 (by decide), Int.mul_zero]
/-- what a division leaves is such a row again -/
theorem Qr_mu {a b : Int} {dH e : Nat} {r r' : Nat → Int64} {g : Nat → Int} (h : Qr dH e r) (hR : Ro a b) (m : Mu a b g (ri r)) (h1 : ∀ i, i < 4 → (r' i).toInt = g i) (h2 : ∀ i, 4 ≤ i → i < 7 → r' i = 0) : Qr dH (e + 1) r' := by
  have he := Qr_e h
  have hb : b ≠ 0 := by have := hR.1; omega
  obtain ⟨g2, g1, g0⟩ := mu_b m hR.1 (by have := hR.2.1; omega) (fun i hi => h.1 i hi)
  have pw : (9 * 91 ^ (e + 1) : Nat) = 91 * (9 * 91 ^ e) := by rw [Nat.pow_succ]; omega
  refine ⟨fun i hi => ?_, h2, fun i hi hd => ?_, ?_⟩
  · unfold lb
    rw [h1 i hi, pw]
    rcases (show i = 0 ∨ i = 1 ∨ i = 2 ∨ i = 3 by omega) with rfl | rfl | rfl | rfl
    · exact g0
    · omega
    · omega
    · rw [m.2.2.2.2]; exact Nat.zero_le _
  · apply i64_e0.mpr
    rw [h1 i hi]
    exact mu_deg (d := dH - e) m hb (fun j hj1 hj2 => i64_e0.mp (h.2.2.1 j hj2 (by omega))) i (by omega) hi
  · obtain ⟨i, hi, hne⟩ := h.2.2.2
    obtain ⟨j, hj, hj0⟩ := mu_ne m ⟨i, hi, i64_ne.mp hne⟩
    exact ⟨j, hj, i64_ne.mpr (by rw [h1 j hj]; exact hj0)⟩
theorem V_const {f : Nat → Int} {a b : Int} (hb : b ≠ 0) (h0 : ∃ i, i < 4 ∧ f i ≠ 0) (hz : ∀ i, 1 ≤ i → i < 4 → f i = 0) : Vv f a b ≠ 0 := by
  obtain ⟨i, hi, hne⟩ := h0
  have f0 : f 0 ≠ 0 := by
    by_cases e : i = 0
    · subst e; exact hne
    · exact absurd (hz i (by omega) hi) hne
  unfold Vv
  rw [hz 1 (by decide) (by decide), hz 2 (by decide) (by decide), hz 3 (by decide) (by decide), Int.zero_mul, Int.zero_mul, Int.zero_mul, Int.sub_zero, Int.add_zero, Int.sub_zero]
  exact Int.mul_ne_zero f0 (Int.mul_ne_zero (Int.mul_ne_zero hb hb) hb)
theorem b91 {e : Nat} (h : e ≤ 3) : 9 * 91 ^ e ≤ 6782139 := Nat.le_trans (Nat.mul_le_mul (Nat.le_refl 9) (Nat.pow_le_pow_right (by decide) h)) (by decide)
theorem times_l {a b : Int} {w : Nat → Bool} {dH : Nat} (hR : Ro a b) (hd : dH ≤ 3) : ∀ (r s n e : Nat) (J : HJ), s + r = 3 → r < n → Qr dH e (J 50) → s ≤ e → ∃ (J' : HJ) (t : Nat), Un_timesInRest_2 (nn w) 30 (iz a) (iz b) n J (nI s) = some (J', nI (s + t)) ∧ t ≤ r ∧ Qr dH (e + t) (J' 50) ∧ Rd t (ri (J 50)) (ri (J' 50)) ∧ Ot a b (ri (J 50)) (ri (J' 50)) ∧ Vv (ri (J' 50)) a b ≠ 0 ∧ (t = 0 ↔ Vv (ri (J 50)) a b ≠ 0) ∧ (t ≤ 1 ↔ (Vv (ri (J 50)) a b ≠ 0 ∨ Dd (ri (J 50)) a b ≠ 0)) ∧ ∀ q, q ≠ 50 → J' q = J q := by
  have hb : b ≠ 0 := by have := hR.1; omega
  have h1 := hR.1
  have h2 := hR.2.1
  have ai : (iz a).toInt64.toInt = a := by rw [iz_l (by omega), oi_i (n := 9) (by omega) (by decide)]
  have bi : (iz b).toInt64.toInt = b := by rw [iz_l (by omega), oi_i (n := 9) (by omega) (by decide)]
  intro r
  induction r with
  | zero =>
    intro s n e J hs hn hQ hse
    obtain rfl : s = 3 := by omega
    obtain ⟨m, rfl⟩ : ∃ m, n = m + 1 := ⟨n - 1, by omega⟩
    have vne : Vv (ri (J 50)) a b ≠ 0 := by
      obtain ⟨i, hi, hne⟩ := hQ.2.2.2
      exact V_const hb ⟨i, hi, i64_ne.mp hne⟩ (fun i h1 h2 => i64_e0.mp (hQ.2.2.1 i h2 (by omega)))
    refine ⟨J, 0, ?_, Nat.le_refl 0, hQ, fun _ _ => rfl, Ot_id, vne, ⟨fun _ => vne, fun _ => rfl⟩, ⟨fun _ => Or.inl vne, fun _ => by decide⟩, fun _ _ => rfl⟩
    show Un_timesInRest_2b (nn w) 30 (iz a) (iz b) (Un_timesInRest_2 (nn w) 30 (iz a) (iz b) m) J (nI 3) = _
    unfold Un_timesInRest_2b
    rw [if_pos (by decide)]
  | succ r ih =>
    intro s n e J hs hn hQ hse
    obtain ⟨m, rfl⟩ : ∃ m, n = m + 1 := ⟨n - 1, by omega⟩
    have he := Qr_e hQ
    have bb := b91 (e := e) (by omega)
    have vi : (vam (J 50) (iz a).toInt64 (iz b).toInt64).toInt = Vv (ri (J 50)) a b := by
      have := vam_i (c := J 50) (U := (iz a).toInt64) (D := (iz b).toInt64) hQ.1 (by omega) (by omega) (by omega)
      rw [ai, bi] at this
      exact this
    have st : Un_timesInRest_2 (nn w) 30 (iz a) (iz b) (m + 1) J (nI s) = if vam (J 50) (iz a).toInt64 (iz b).toInt64 = 0 then bn1 (Po_divideByRoot (nn w) 49 (iz a).toInt64 (iz b).toInt64 J) (fun J7 => Un_timesInRest_2 (nn w) 30 (iz a) (iz b) m J7 (nI (s + 1))) else some (J, nI s) := by
      show Un_timesInRest_2b (nn w) 30 (iz a) (iz b) (Un_timesInRest_2 (nn w) 30 (iz a) (iz b) m) J (nI s) = _
      unfold Un_timesInRest_2b
      rw [if_neg (show ¬ (3 : Int32) ≤ nI s from nI_ge (a := s) (b := 3) (by omega) (by decide)), nv_30_3, Po_valueAtMinus_s po_49, bn1_s, nv_30_3, nI_1]
    by_cases hv : Vv (ri (J 50)) a b = 0
    · obtain ⟨g, hm, gz⟩ := mu_ex hR.2.2 hb hv
      obtain ⟨J1, d1, d2, d3, d4⟩ := dbr_s (w := w) (J := J) (U := (iz a).toInt64) (D := (iz b).toInt64) (B := 9 * 91 ^ e) (g := g) po_49 (by rw [ai, bi]; exact hm) (by omega) (by omega) hQ.1 hQ.2.1 (by omega)
      have Q1 : Qr dH (e + 1) (J1 50) := Qr_mu hQ hR hm d2 d3
      have eg : E4 (ri (J1 50)) g := fun i hi => d2 i hi
      have hm1 : Mu a b (ri (J1 50)) (ri (J 50)) := mu_E' hm (E4_s eg)
      obtain ⟨J', t, i1, i2, i3, i4, i5, i6, i7, i8, i9⟩ := ih (s + 1) m (e + 1) J1 (by omega) (by omega) Q1 (by omega)
      refine ⟨J', t + 1, ?_, by omega, by rw [show e + (t + 1) = e + 1 + t by omega]; exact i3, ⟨a, b, _, hR, hm1, i4⟩, Ot_tr (mu_Ot hR hm1) i5, i6, ⟨fun q => by omega, fun q => absurd hv q⟩, ?_, fun q hq => (i9 q hq).trans (d4 q hq)⟩
      · rw [st, if_pos (i64_e0.mpr (vi.trans hv)), d1, bn1_s, i1, show s + 1 + t = s + (t + 1) by omega]
      · have ds := mu_Ds hm1 hb
        rw [ds]
        constructor
        · intro q
          exact Or.inr (i7.mp (by omega))
        · intro q
          rcases q with q | q
          · exact absurd hv q
          · have := i7.mpr q; omega
    · refine ⟨J, 0, ?_, by omega, hQ, fun _ _ => rfl, Ot_id, hv, ⟨fun _ => hv, fun _ => rfl⟩, ⟨fun _ => Or.inl hv, fun _ => by omega⟩, fun _ _ => rfl⟩
      rw [st, if_neg (fun q => hv (by rw [← vi]; exact i64_e0.mp q))]; rfl
