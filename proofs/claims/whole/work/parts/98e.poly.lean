/-- polynomials of degree at most 3 over Int: f is (b X + a) times g -/
def Mu (a b : Int) (g f : Nat → Int) : Prop := f 0 = a * g 0 ∧ f 1 = b * g 0 + a * g 1 ∧ f 2 = b * g 1 + a * g 2 ∧ f 3 = b * g 2 ∧ g 3 = 0
/-- the value at -x/y, times y cubed; the slope there, times y squared -/
def Vv (f : Nat → Int) (x y : Int) : Int := f 0 * (y * y * y) - f 1 * (x * y * y) + f 2 * (x * x * y) - f 3 * (x * x * x)
def Dd (f : Nat → Int) (x y : Int) : Int := f 1 * (y * y) - 2 * (f 2 * (x * y)) + 3 * (f 3 * (x * x))
theorem mu_V {a b x y : Int} {g f : Nat → Int} (h : Mu a b g f) : y * Vv f x y = (a * y - b * x) * Vv g x y := by
  obtain ⟨h0, h1, h2, h3, h4⟩ := h
  unfold Vv
  rw [h0, h1, h2, h3, h4]
  grind
theorem mu_D {a b x y : Int} {g f : Nat → Int} (h : Mu a b g f) : y * Dd f x y = b * Vv g x y + (a * y - b * x) * Dd g x y := by
  obtain ⟨h0, h1, h2, h3, h4⟩ := h
  unfold Vv Dd
  rw [h1, h2, h3, h4]
  grind
theorem mu_Ds {a b : Int} {g f : Nat → Int} (h : Mu a b g f) (hb : b ≠ 0) : Dd f a b = Vv g a b := by
  have := mu_D (x := a) (y := b) h
  apply Int.eq_of_mul_eq_mul_left hb
  rw [this]; grind
theorem mu_V0 {a b : Int} {g f : Nat → Int} (h : Mu a b g f) (hb : b ≠ 0) : Vv f a b = 0 := by
  have := mu_V (x := a) (y := b) h
  apply Int.eq_of_mul_eq_mul_left hb
  rw [this]; grind
theorem cop_dvd {a b c : Int} (h : Nat.gcd a.natAbs b.natAbs = 1) (hd : b ∣ a * c) : b ∣ c := by
  have h1 : b.natAbs ∣ a.natAbs * c.natAbs := by rw [← Int.natAbs_mul]; exact Int.natAbs_dvd_natAbs.mpr hd
  exact Int.natAbs_dvd_natAbs.mp (Nat.Coprime.dvd_of_dvd_mul_left (Nat.Coprime.symm h) h1)
theorem mu_ex {a b : Int} {f : Nat → Int} (hg : Nat.gcd a.natAbs b.natAbs = 1) (hb : b ≠ 0) (h : Vv f a b = 0) : ∃ g, Mu a b g f ∧ ∀ i, 3 ≤ i → g i = 0 := by
  unfold Vv at h
  obtain ⟨q2, e2⟩ : b ∣ f 3 := by
    apply cop_dvd hg; apply cop_dvd hg; apply cop_dvd hg
    exact ⟨f 0 * (b * b) - f 1 * (a * b) + f 2 * (a * a), by grind⟩
  have h' : f 0 * (b * b) - f 1 * (a * b) + f 2 * (a * a) - q2 * (a * a * a) = 0 := by
    apply Int.eq_of_mul_eq_mul_left hb
    rw [e2] at h; rw [Int.mul_zero, ← h]; grind
  obtain ⟨q1, e1⟩ : b ∣ f 2 - a * q2 := by
    apply cop_dvd hg; apply cop_dvd hg
    exact ⟨f 1 * a - f 0 * b, by grind⟩
  have h'' : f 0 * b - f 1 * a + q1 * (a * a) = 0 := by
    apply Int.eq_of_mul_eq_mul_left hb
    have : f 2 = a * q2 + b * q1 := by omega
    rw [this] at h'; rw [Int.mul_zero, ← h']; grind
  obtain ⟨q0, e0⟩ : b ∣ f 1 - a * q1 := by
    apply cop_dvd hg
    exact ⟨f 0, by grind⟩
  have h3 : f 0 = a * q0 := by
    apply Int.eq_of_mul_eq_mul_left hb
    have : f 1 = a * q1 + b * q0 := by omega
    rw [this] at h''; grind
  refine ⟨fun i => if i = 0 then q0 else if i = 1 then q1 else if i = 2 then q2 else 0, ⟨h3, ?_, ?_, e2, rfl⟩, fun i hi => ?_⟩
  · show f 1 = b * q0 + a * q1
    omega
  · show f 2 = b * q1 + a * q2
    omega
  · show (if i = 0 then q0 else if i = 1 then q1 else if i = 2 then q2 else 0) = 0
    rw [if_neg (by omega), if_neg (by omega), if_neg (by omega)]
def E4 (f g : Nat → Int) : Prop := ∀ i, i < 4 → f i = g i
theorem mu_can {a b : Int} {g g' f : Nat → Int} (hb : b ≠ 0) (h : Mu a b g f) (h' : Mu a b g' f) : E4 g g' := by
  obtain ⟨h0, h1, h2, h3, h4⟩ := h
  obtain ⟨k0, k1, k2, k3, k4⟩ := h'
  have e2 : g 2 = g' 2 := Int.eq_of_mul_eq_mul_left hb (by rw [← h3, k3])
  have e1 : g 1 = g' 1 := Int.eq_of_mul_eq_mul_left hb (by rw [e2] at h2; omega)
  have e0 : g 0 = g' 0 := Int.eq_of_mul_eq_mul_left hb (by rw [e1] at h1; omega)
  intro i hi
  rcases (show i = 0 ∨ i = 1 ∨ i = 2 ∨ i = 3 by omega) with rfl | rfl | rfl | rfl
  · exact e0
  · exact e1
  · exact e2
  · rw [h4, k4]
theorem mu_E {a b : Int} {g f f' : Nat → Int} (h : Mu a b g f) (e : E4 f f') : Mu a b g f' := by
  obtain ⟨h0, h1, h2, h3, h4⟩ := h
  exact ⟨by rw [← e 0 (by decide)]; exact h0, by rw [← e 1 (by decide)]; exact h1, by rw [← e 2 (by decide)]; exact h2, by rw [← e 3 (by decide)]; exact h3, h4⟩
theorem mu_E' {a b : Int} {g g' f : Nat → Int} (h : Mu a b g f) (e : E4 g g') : Mu a b g' f := by
  obtain ⟨h0, h1, h2, h3, h4⟩ := h
  unfold Mu
  rw [← e 0 (by decide), ← e 1 (by decide), ← e 2 (by decide), ← e 3 (by decide)]
  exact ⟨h0, h1, h2, h3, h4⟩
theorem V_E {f g : Nat → Int} {x y : Int} (e : E4 f g) : Vv f x y = Vv g x y := by
  unfold Vv
  rw [e 0 (by decide), e 1 (by decide), e 2 (by decide), e 3 (by decide)]
theorem D_E {f g : Nat → Int} {x y : Int} (e : E4 f g) : Dd f x y = Dd g x y := by
  unfold Dd
  rw [e 1 (by decide), e 2 (by decide), e 3 (by decide)]
theorem E4_s {f g : Nat → Int} (h : E4 f g) : E4 g f := fun i hi => (h i hi).symm
theorem E4_t {f g k : Nat → Int} (h : E4 f g) (h' : E4 g k) : E4 f k := fun i hi => (h i hi).trans (h' i hi)
/-- the roots that are looked for, and 0 -/
def Ro (a b : Int) : Prop := (1 ≤ b ∧ b ≤ 9) ∧ (-9 ≤ a ∧ a ≤ 9) ∧ Nat.gcd a.natAbs b.natAbs = 1
theorem ro_ne {a b c d : Int} (h : Ro a b) (h' : Ro c d) (hne : ¬ (a = c ∧ b = d)) : a * d - b * c ≠ 0 := by
  intro q
  apply hne
  exact low_uni (by have := h.1; omega) (by have := h'.1; omega) h.2.2 h'.2.2 (by rw [Int.mul_comm c b]; omega)
theorem mu_dia {a b c d : Int} {g k f : Nat → Int} (h : Ro a b) (h' : Ro c d) (hne : ¬ (a = c ∧ b = d)) (m : Mu a b g f) (m' : Mu c d k f) : ∃ e, Mu c d e g ∧ Mu a b e k := by
  have hb : b ≠ 0 := by have := h.1; omega
  have hd : d ≠ 0 := by have := h'.1; omega
  have v0 := mu_V0 m' hd
  have v1 := mu_V (x := c) (y := d) m
  rw [v0, Int.mul_zero] at v1
  have v2 : Vv g c d = 0 := (Int.mul_eq_zero.mp v1.symm).resolve_left (ro_ne h h' hne)
  obtain ⟨e, me, ez⟩ := mu_ex h'.2.2 hd v2
  refine ⟨e, me, ?_⟩
  obtain ⟨e0, e1, e2, e3, e4⟩ := me
  obtain ⟨f0, f1, f2, f3, f4⟩ := m
  have e20 : e 2 = 0 := by
    rw [f4] at e3
    exact (Int.mul_eq_zero.mp e3.symm).resolve_left hd
  have mm : Mu c d (fun i => if i = 0 then a * e 0 else if i = 1 then b * e 0 + a * e 1 else if i = 2 then b * e 1 + a * e 2 else 0) f := by
    refine ⟨?_, ?_, ?_, ?_, rfl⟩
    · show f 0 = c * (a * e 0)
      rw [f0, e0]; grind
    · show f 1 = d * (a * e 0) + c * (b * e 0 + a * e 1)
      rw [f1, e0, e1]; grind
    · show f 2 = d * (b * e 0 + a * e 1) + c * (b * e 1 + a * e 2)
      rw [f2, e1, e2, e20]; grind
    · show f 3 = d * (b * e 1 + a * e 2)
      rw [f3, e2, e20]; grind
  have ck := mu_can hd m' mm
  refine ⟨ck 0 (by decide), ck 1 (by decide), ck 2 (by decide), ?_, e4⟩
  have c3 : k 3 = 0 := ck 3 (by decide)
  rw [c3, e20, Int.mul_zero]
/-- no root is left -/
def Irr (f : Nat → Int) : Prop := ∀ a b, Ro a b → Vv f a b ≠ 0
def Rd : Nat → (Nat → Int) → (Nat → Int) → Prop
  | 0, f, g => E4 f g
  | n + 1, f, g => ∃ a b h, Ro a b ∧ Mu a b h f ∧ Rd n h g
theorem Rd_E : ∀ n {f f' g : Nat → Int}, E4 f f' → Rd n f g → Rd n f' g
  | 0, _, _, _, e, h => E4_t (E4_s e) h
  | _ + 1, _, _, _, e, ⟨a, b, k, hr, hm, hd⟩ => ⟨a, b, k, hr, mu_E hm e, hd⟩
theorem Rd_tr : ∀ n m {f g k : Nat → Int}, Rd n f g → Rd m g k → Rd (n + m) f k
  | 0, m, f, g, k, h, h' => by rw [Nat.zero_add]; exact Rd_E m (E4_s h) h'
  | n + 1, m, f, g, k, ⟨a, b, e, hr, hm, hd⟩, h' => by
    rw [show n + 1 + m = (n + m) + 1 by omega]
    exact ⟨a, b, e, hr, hm, Rd_tr n m hd h'⟩
theorem nf_ex : ∀ d {f : Nat → Int}, d ≤ 4 → (∀ i, d ≤ i → i < 4 → f i = 0) → (∃ i, i < 4 ∧ f i ≠ 0) → ∃ n g, Rd n f g ∧ Irr g
  | 0, f, _, hz, ⟨i, hi, hne⟩ => absurd (hz i (by omega) hi) hne
  | d + 1, f, hd, hz, ⟨i0, hi0, hne⟩ => by
    by_cases ir : Irr f
    · exact ⟨0, f, fun _ _ => rfl, ir⟩
    · obtain ⟨a, b, hr, hv⟩ : ∃ a b, Ro a b ∧ Vv f a b = 0 := by
        apply Classical.byContradiction
        intro q
        exact ir (fun a b hr hv => q ⟨a, b, hr, hv⟩)
      have hb : b ≠ 0 := by have := hr.1; omega
      obtain ⟨g, hm, gz⟩ := mu_ex hr.2.2 hb hv
      obtain ⟨f0, f1, f2, f3, f4⟩ := id hm
      have z : ∀ i, d ≤ i → i < 4 → g i = 0 := by
        have z2 : d ≤ 2 → g 2 = 0 := fun h => (Int.mul_eq_zero.mp (f3.symm.trans (hz 3 (by omega) (by omega)))).resolve_left hb
        have z1 : d ≤ 1 → g 1 = 0 := fun h => by
          have := hz 2 (by omega) (by omega)
          rw [f2, z2 (by omega), Int.mul_zero, Int.add_zero] at this
          exact (Int.mul_eq_zero.mp this).resolve_left hb
        have z0 : d ≤ 0 → g 0 = 0 := fun h => by
          have := hz 1 (by omega) (by omega)
          rw [f1, z1 (by omega), Int.mul_zero, Int.add_zero] at this
          exact (Int.mul_eq_zero.mp this).resolve_left hb
        intro i h1 h2
        rcases (show i = 0 ∨ i = 1 ∨ i = 2 ∨ i = 3 by omega) with rfl | rfl | rfl | rfl
        · exact z0 h1
        · exact z1 h1
        · exact z2 h1
        · exact f4
      have nz : ∃ i, i < 4 ∧ g i ≠ 0 := by
        apply Classical.byContradiction
        intro q
        have g0 : ∀ i, i < 4 → g i = 0 := fun i hi => Classical.byContradiction fun w => q ⟨i, hi, w⟩
        apply hne
        rcases (show i0 = 0 ∨ i0 = 1 ∨ i0 = 2 ∨ i0 = 3 by omega) with rfl | rfl | rfl | rfl
        · rw [f0, g0 0 (by decide), Int.mul_zero]
        · rw [f1, g0 0 (by decide), g0 1 (by decide), Int.mul_zero, Int.mul_zero]; rfl
        · rw [f2, g0 1 (by decide), g0 2 (by decide), Int.mul_zero, Int.mul_zero]; rfl
        · rw [f3, g0 2 (by decide), Int.mul_zero]
      obtain ⟨n, k, h1, h2⟩ := nf_ex d (by omega) z nz
      exact ⟨n + 1, k, ⟨a, b, g, hr, hm, h1⟩, h2⟩
theorem Rd_ne : ∀ n {f g : Nat → Int}, Rd n f g → (∃ i, i < 4 ∧ g i ≠ 0) → ∃ i, i < 4 ∧ f i ≠ 0
  | 0, f, g, h, ⟨i, hi, hne⟩ => ⟨i, hi, by rw [h i hi]; exact hne⟩
  | n + 1, f, g, ⟨a, b, k, hr, hm, hd⟩, hg => by
    have hb : b ≠ 0 := by have := hr.1; omega
    obtain ⟨i, hi, hne⟩ := Rd_ne n hd hg
    obtain ⟨f0, f1, f2, f3, f4⟩ := hm
    apply Classical.byContradiction
    intro q
    have z : ∀ i, i < 4 → f i = 0 := fun i hi => Classical.byContradiction fun w => q ⟨i, hi, w⟩
    have k2 : k 2 = 0 := (Int.mul_eq_zero.mp (f3.symm.trans (z 3 (by decide)))).resolve_left hb
    have k1 : k 1 = 0 := by
      have := z 2 (by decide)
      rw [f2, k2, Int.mul_zero, Int.add_zero] at this
      exact (Int.mul_eq_zero.mp this).resolve_left hb
    have k0 : k 0 = 0 := by
      have := z 1 (by decide)
      rw [f1, k1, Int.mul_zero, Int.add_zero] at this
      exact (Int.mul_eq_zero.mp this).resolve_left hb
    apply hne
    rcases (show i = 0 ∨ i = 1 ∨ i = 2 ∨ i = 3 by omega) with rfl | rfl | rfl | rfl
    · exact k0
    · exact k1
    · exact k2
    · exact f4
theorem Irr_ne {f : Nat → Int} (h : Irr f) : ∃ i, i < 4 ∧ f i ≠ 0 := by
  refine ⟨0, by decide, fun q => ?_⟩
  apply h 0 1 ⟨⟨by decide, by decide⟩, ⟨by decide, by decide⟩, by decide⟩
  unfold Vv
  rw [q]; grind
theorem nf_uni : ∀ n {m : Nat} {f g k : Nat → Int}, Rd n f g → Irr g → Rd m f k → Irr k → n = m ∧ E4 g k
  | 0, m, f, g, k, h, ig, h', ik => by
    cases m with
    | zero => exact ⟨rfl, E4_t (E4_s h) h'⟩
    | succ m =>
      obtain ⟨a, b, e, hr, hm, hd⟩ := h'
      have := mu_V0 hm (by have := hr.1; omega)
      rw [V_E h] at this
      exact absurd this (ig a b hr)
  | n + 1, m, f, g, k, ⟨a, b, g1, hr, hm, hd⟩, ig, h', ik => by
    cases m with
    | zero =>
      have := mu_V0 hm (by have := hr.1; omega)
      rw [V_E h'] at this
      exact absurd this (ik a b hr)
    | succ m =>
      obtain ⟨c, d, g2, hr2, hm2, hd2⟩ := h'
      by_cases e : a = c ∧ b = d
      · obtain ⟨rfl, rfl⟩ := e
        have := nf_uni n hd ig (Rd_E m (E4_s (mu_can (by have := hr.1; omega) hm hm2)) hd2) ik
        exact ⟨by omega, this.2⟩
      · obtain ⟨x, m1, m2⟩ := mu_dia hr hr2 e hm hm2
        have xne : ∃ i, i < 4 ∧ x i ≠ 0 := by
          have := Rd_ne n hd (Irr_ne ig)
          apply Classical.byContradiction
          intro q
          have z : ∀ i, i < 4 → x i = 0 := fun i hi => Classical.byContradiction fun w => q ⟨i, hi, w⟩
          obtain ⟨i, hi, hne⟩ := this
          obtain ⟨f0, f1, f2, f3, f4⟩ := m1
          apply hne
          rcases (show i = 0 ∨ i = 1 ∨ i = 2 ∨ i = 3 by omega) with rfl | rfl | rfl | rfl
          · rw [f0, z 0 (by decide), Int.mul_zero]
          · rw [f1, z 0 (by decide), z 1 (by decide), Int.mul_zero, Int.mul_zero]; rfl
          · rw [f2, z 1 (by decide), z 2 (by decide), Int.mul_zero, Int.mul_zero]; rfl
          · rw [f3, z 2 (by decide), Int.mul_zero]
        obtain ⟨j, y, hj, iy⟩ := nf_ex 4 (Nat.le_refl 4) (fun i h1 h2 => by omega) xne
        have u1 := nf_uni n hd ig (m := j + 1) ⟨c, d, x, hr2, m1, hj⟩ iy
        have hj2 : Rd n g2 y := by rw [u1.1]; exact ⟨a, b, x, hr, m2, hj⟩
        have u2 := nf_uni n hj2 iy hd2 ik
        exact ⟨by omega, E4_t u1.2 u2.2⟩
