/-- the class's search for roots: its place in a = -9 .. 9, b = 1 .. 9 -/
def ps (a b : Int) : Int := 9 * (a + 9) + b - 1
def FI (Hr : Nat → Int64) (dH : Nat) (c : Int) (I : HI) (J : HJ) : Prop := ∃ (e n : Nat) (ks : Nat → Nat) (T : Nat → Int32), Qr dH e (J 50) ∧ Rd e (ri Hr) (ri (J 50)) ∧ (∀ a b, Ro a b → a ≠ 0 → (ps a b < c → Vv (ri (J 50)) a b ≠ 0) ∧ (c ≤ ps a b → (Vv (ri Hr) a b = 0 ↔ Vv (ri (J 50)) a b = 0) ∧ (Vv (ri Hr) a b = 0 → (Dd (ri Hr) a b = 0 ↔ Dd (ri (J 50)) a b = 0)))) ∧ n ≤ e ∧ I 30 9 = nI n ∧ (∀ i, i < n → ks i < 110 ∧ atR I i (ks i) (T i) ∧ (T i ≤ 1 ↔ Dd (ri Hr) (tA (ks i)) (tB (ks i)) ≠ 0)) ∧ (∀ i j, i < j → j < n → ks i < ks j) ∧ ∀ x, x < 110 → ((∃ i, i < n ∧ ks i = x) ↔ (Vv (ri Hr) (tA x) (tB x) = 0 ∧ ps (tA x) (tB x) < c))
theorem ps_inj {a b c d : Int} (h1 : 1 ≤ b ∧ b ≤ 9) (h2 : 1 ≤ d ∧ d ≤ 9) (h : ps a b = ps c d) : a = c ∧ b = d := by unfold ps at h; omega
theorem tRo {x : Nat} (hx : x < 110) : Ro (tA x) (tB x) ∧ tA x ≠ 0 := by
  have := t_ok x hx
  exact ⟨⟨this.2.1, ⟨this.1.1, this.1.2.1⟩, this.2.2⟩, this.1.2.2⟩
theorem FI_skip {Hr : Nat → Int64} {dH : Nat} {a b : Int} {I : HI} {J : HJ} (hb : 1 ≤ b ∧ b ≤ 9) (h : FI Hr dH (ps a b) I J) (hn : Ro a b → a ≠ 0 → Vv (ri Hr) a b ≠ 0) : FI Hr dH (ps a b + 1) I J := by
  obtain ⟨e, n, ks, T, h1, h2, h3, h4, h5, h6, h7, h8⟩ := h
  refine ⟨e, n, ks, T, h1, h2, fun c d r c0 => ⟨fun q => ?_, fun q => (h3 c d r c0).2 (by omega)⟩, h4, h5, h6, h7, fun x hx => (h8 x hx).trans ⟨fun q => ⟨q.1, by omega⟩, fun q => ⟨q.1, ?_⟩⟩⟩
  · by_cases e : ps c d = ps a b
    · obtain ⟨rfl, rfl⟩ := ps_inj r.1 hb e
      exact fun z => hn r c0 (((h3 c d r c0).2 (by omega)).1.mpr z)
    · exact (h3 c d r c0).1 (by omega)
  · by_cases e : ps (tA x) (tB x) = ps a b
    · obtain ⟨e1, e2⟩ := ps_inj (tRo hx).1.1 hb e
      have := hn (by rw [← e1, ← e2]; exact (tRo hx).1) (by rw [← e1]; exact (tRo hx).2)
      rw [← e1, ← e2] at this
      exact absurd q.1 this
    · have := q.2; omega
theorem nI_iz {b : Nat} (h : b < 100) : nI b = iz (b : Int) := by
  apply Int32.toInt_inj.mp
  rw [nI_toInt (by omega), iz_i (by omega)]
theorem iz_1 {a : Int} (h : -50 ≤ a ∧ a ≤ 50) : iz a + 1 = iz (a + 1) := by
  unfold iz
  rw [Int32.ofInt_add]; rfl
theorem one_le {t : Nat} (h : t < 100) : nI t ≤ 1 ↔ t ≤ 1 := nI_leI (b := 1) (by omega) (by decide)
theorem FI_add {w : Nat → Bool} {Hr : Nat → Int64} {dH : Nat} {a b : Int} {I : HI} {J : HJ} (hd : dH ≤ 3) (hR : Ro a b) (a0 : a ≠ 0) (hv : Vv (ri Hr) a b = 0) (h : FI Hr dH (ps a b) I J) : ∃ (I' : HI) (J' : HJ) (t : Int32), Un_timesInRest (nn w) 30 (iz a) (iz b) J = some (J', t) ∧ Un_addRoot (nn w) 30 (iz a) (iz b) t I = some I' ∧ FI Hr dH (ps a b + 1) I' J' ∧ (∀ q, q ≠ 50 → J' q = J q) ∧ (∀ q, q ≠ 30 → q ≠ 53 → q ≠ 54 → q ≠ 55 → I' q = I q) := by
  obtain ⟨e, n, ks, T, h1, h2, h3, h4, h5, h6, h7, h8⟩ := h
  obtain ⟨x, hx, xa, xb⟩ := t_all hR.2.1 a0 hR.1 hR.2.2
  have hc := (h3 a b hR a0).2 (Int.le_refl _)
  have fv : Vv (ri (J 50)) a b = 0 := hc.1.mp hv
  obtain ⟨J', t, t1, t2, t3, t4, t5, t6, t7, t8, t9⟩ := times_l (w := w) hR hd 3 0 256 e J (by decide) (by decide) h1 (Nat.zero_le _)
  have tp : t ≠ 0 := fun q => (t7.mp q) fv
  have e3 := Qr_e t3
  have n3 : n < 3 := by omega
  have new : ∀ i, i < n → ks i ≠ x := fun i hi q => by
    have := ((h8 x hx).mp ⟨i, hi, q⟩).2
    rw [xa, xb] at this; omega
  obtain ⟨I', m, a1, a2, a3, a4, a5, a6, a7, a8, a9⟩ := aroot_l (w := w) (x := x) (ks := ks) (t := nI t) (T := T) hx n3 (fun i hi => (h6 i hi).1) n 256 I (Nat.le_refl n) (by omega) h5 (fun j hj => (h6 j hj).2.1) (fun j q1 q2 => by omega)
  rw [xa, xb] at a1
  have lo : ∀ j, j < m → ks j < x := by
    intro j hj
    rcases a7 with q | q
    · omega
    · have k1 : ks (m - 1) < x := by have := new (m - 1) (by omega); omega
      by_cases ej : j = m - 1
      · subst ej; exact k1
      · have := h7 j (m - 1) (by omega) (by omega); omega
  have tD : (nI t ≤ 1 ↔ Dd (ri Hr) (tA x) (tB x) ≠ 0) := by
    rw [one_le (by omega), t8, xa, xb]
    have := hc.2 hv
    constructor
    · rintro (q | q)
      · exact absurd fv q
      · exact fun z => q (this.mp z)
    · exact fun q => Or.inr (fun z => q (this.mpr z))
  have t1' : Un_timesInRest_2 (nn w) 30 (iz a) (iz b) 256 J 0 = some (J', nI (0 + t)) := t1
  rw [Nat.zero_add] at t1'
  refine ⟨I', J', nI t, t1', ?_, ⟨e + t, n + 1, fun i => if i < m then ks i else if i = m then x else ks (i - 1), fun i => if i < m then T i else if i = m then nI t else T (i - 1), t3, Rd_tr e t h2 t4, fun c d r c0 => ?_, by omega, a3, fun i hi => ?_, fun i j hij hj => ?_, fun y hy => ?_⟩, t9, a8⟩
  · unfold Un_addRoot Un_addRoot_0
    rw [h5, if_pos (show nI n < (3 : Int32) from nI_lt (b := 3) n3 (by decide)), bd_e, a1]
  · by_cases q : c = a ∧ d = b
    · obtain ⟨rfl, rfl⟩ := q
      exact ⟨fun _ => t6, fun q => by omega⟩
    · have o := t5 c d r q
      refine ⟨fun q2 => ?_, fun q2 => ?_⟩
      · have ne : ps c d ≠ ps a b := fun z => q (ps_inj r.1 hR.1 z)
        have := (h3 c d r c0).1 (by omega)
        exact fun z => this (o.1.mpr z)
      · have := (h3 c d r c0).2 (by omega)
        exact ⟨this.1.trans o.1, fun z => (this.2 z).trans (o.2 (this.1.mp z))⟩
  · show (if i < m then ks i else if i = m then x else ks (i - 1)) < 110 ∧ atR I' i (if i < m then ks i else if i = m then x else ks (i - 1)) (if i < m then T i else if i = m then nI t else T (i - 1)) ∧ ((if i < m then T i else if i = m then nI t else T (i - 1)) ≤ 1 ↔ Dd (ri Hr) (tA (if i < m then ks i else if i = m then x else ks (i - 1))) (tB (if i < m then ks i else if i = m then x else ks (i - 1))) ≠ 0)
    by_cases c1 : i < m
    · rw [if_pos c1, if_pos c1]
      have := h6 i (by omega)
      exact ⟨this.1, a4 i c1, this.2.2⟩
    · rw [if_neg c1, if_neg c1]
      by_cases c2 : i = m
      · rw [if_pos c2, if_pos c2, c2]; exact ⟨hx, a5, tD⟩
      · rw [if_neg c2, if_neg c2]
        have := h6 (i - 1) (by omega)
        have r := (a6 (i - 1) (by omega) (by omega)).1
        rw [show i - 1 + 1 = i by omega] at r
        exact ⟨this.1, r, this.2.2⟩
  · show (if i < m then ks i else if i = m then x else ks (i - 1)) < (if j < m then ks j else if j = m then x else ks (j - 1))
    by_cases c1 : j < m
    · rw [if_pos c1, if_pos (by omega)]; exact h7 i j hij (by omega)
    · rw [if_neg c1]
      by_cases c2 : j = m
      · rw [if_pos c2, if_pos (by omega)]; exact lo i (by omega)
      · rw [if_neg c2]
        have hj' := (a6 (j - 1) (by omega) (by omega)).2
        by_cases c3 : i < m
        · rw [if_pos c3]; have := lo i c3; omega
        · rw [if_neg c3]
          by_cases c4 : i = m
          · rw [if_pos c4]; exact hj'
          · rw [if_neg c4]; exact h7 (i - 1) (j - 1) (by omega) (by omega)
  · constructor
    · rintro ⟨i, hi, hk⟩
      have hk : (if i < m then ks i else if i = m then x else ks (i - 1)) = y := hk
      by_cases c1 : i < m
      · rw [if_pos c1] at hk
        have := (h8 y hy).mp ⟨i, by omega, hk⟩
        exact ⟨this.1, by have := this.2; omega⟩
      · rw [if_neg c1] at hk
        by_cases c2 : i = m
        · rw [if_pos c2] at hk
          subst hk
          rw [xa, xb]; exact ⟨hv, by omega⟩
        · rw [if_neg c2] at hk
          have := (h8 y hy).mp ⟨i - 1, by omega, hk⟩
          exact ⟨this.1, by have := this.2; omega⟩
    · rintro ⟨q1, q2⟩
      by_cases ey : y = x
      · exact ⟨m, by omega, by show (if m < m then ks m else if m = m then x else ks (m - 1)) = y; rw [if_neg (by omega), if_pos rfl, ey]⟩
      · have ne : ps (tA y) (tB y) ≠ ps a b := fun z => by
          obtain ⟨z1, z2⟩ := ps_inj (tRo hy).1.1 hR.1 z
          have l1 := (t_le y hy x hx).mp (by rw [z1, z2, xa, xb]; exact Int.le_refl _)
          have l2 := (t_le x hx y hy).mp (by rw [z1, z2, xa, xb]; exact Int.le_refl _)
          omega
        obtain ⟨i, hi, hk⟩ := (h8 y hy).mpr ⟨q1, by omega⟩
        by_cases c1 : i < m
        · exact ⟨i, by omega, by show (if i < m then ks i else if i = m then x else ks (i - 1)) = y; rw [if_pos c1]; exact hk⟩
        · exact ⟨i + 1, by omega, by show (if i + 1 < m then ks (i + 1) else if i + 1 = m then x else ks (i + 1 - 1)) = y; rw [if_neg (by omega), if_neg (by omega)]; exact hk⟩
theorem fr_in {w : Nat → Bool} {Hr : Nat → Int64} {dH : Nat} {a : Int} {K : HI → HJ → Int32 → Option (HI × HJ)} (hd : dH ≤ 3) (ha : -9 ≤ a ∧ a ≤ 9) (hH : ∀ i, i < 4 → lb (Hr i) 9) : ∀ (r b fuel : Nat) (I : HI) (J : HJ), b + r = 10 → 1 ≤ b → r < fuel → J (be w 44 + 1) = Hr → FI Hr dH (ps a b) I J → ∃ (I' : HI) (J' : HJ), Un_findRoots_30 (nn w) 30 K fuel I J (iz a) (nI b) = K I' J' (iz (a + 1)) ∧ FI Hr dH (ps (a + 1) 1) I' J' ∧ (∀ q, q ≠ 50 → J' q = J q) ∧ (∀ q, q ≠ 30 → q ≠ 53 → q ≠ 54 → q ≠ 55 → I' q = I q) := by
  have q44 := ab_be (w := w) (p := 44)
  intro r
  induction r with
  | zero =>
    intro b fuel I J hb b1 hf hJ hF
    obtain rfl : b = 10 := by omega
    obtain ⟨f, rfl⟩ : ∃ f, fuel = f + 1 := ⟨fuel - 1, by omega⟩
    refine ⟨I, J, ?_, by rw [show ps (a + 1) 1 = ps a 10 from by unfold ps; omega]; exact hF, fun _ _ => rfl, fun _ _ _ _ _ => rfl⟩
    show Un_findRoots_30b (nn w) 30 K (Un_findRoots_30 (nn w) 30 K f) I J (iz a) (nI 10) = _
    unfold Un_findRoots_30b
    rw [if_pos (by decide), iz_1 (by omega)]
  | succ r ih =>
    intro b fuel I J hb b1 hf hJ hF
    obtain ⟨f, rfl⟩ : ∃ f, fuel = f + 1 := ⟨fuel - 1, by omega⟩
    have bz : nI b = iz (b : Int) := nI_iz (by omega)
    have nx : ps a b + 1 = ps a ((b + 1 : Nat) : Int) := by unfold ps; omega
    have st : Un_findRoots_30 (nn w) 30 K (f + 1) I J (iz a) (nI b) = Un_findRoots_30b (nn w) 30 K (Un_findRoots_30 (nn w) 30 K f) I J (iz a) (nI b) := rfl
    have n9 : ¬ (9 : Int32) < nI b := fun q => by rw [show (9 : Int32) = nI 9 from rfl, nI_ltI (by decide) (by omega)] at q; omega
    have skip : (Ro a b → a ≠ 0 → Vv (ri Hr) a b ≠ 0) → Un_findRoots_30b (nn w) 30 K (Un_findRoots_30 (nn w) 30 K f) I J (iz a) (nI b) = Un_findRoots_30 (nn w) 30 K f I J (iz a) (nI (b + 1)) → ∃ (I' : HI) (J' : HJ), Un_findRoots_30 (nn w) 30 K (f + 1) I J (iz a) (nI b) = K I' J' (iz (a + 1)) ∧ FI Hr dH (ps (a + 1) 1) I' J' ∧ (∀ q, q ≠ 50 → J' q = J q) ∧ (∀ q, q ≠ 30 → q ≠ 53 → q ≠ 54 → q ≠ 55 → I' q = I q) := by
      intro hn he
      obtain ⟨I', J', c1, c2⟩ := ih (b + 1) f I J (by omega) (by omega) (by omega) hJ (by rw [← nx]; exact FI_skip (by omega) hF hn)
      exact ⟨I', J', by rw [st, he]; exact c1, c2⟩
    by_cases a0 : a = 0
    · apply skip (fun _ q => absurd a0 q)
      unfold Un_findRoots_30b Un_findRoots_83
      rw [if_neg n9, if_pos ((iz_0 (by omega)).mpr a0), nI_1]
    · have ai : (iz a).toInt64.toInt = a := by rw [iz_l (by omega), oi_i (n := 9) (by omega) (by decide)]
      have bi : (nI b).toInt64.toInt = b := by rw [bz, iz_l (by omega), oi_i (n := 9) (by omega) (by decide)]
      have vi : (vam Hr (iz a).toInt64 (nI b).toInt64).toInt = Vv (ri Hr) a b := by
        have := vam_i (c := Hr) (U := (iz a).toInt64) (D := (nI b).toInt64) hH (by omega) (by omega) (by decide)
        rw [ai, bi] at this
        exact this
      by_cases hv : Vv (ri Hr) a b = 0
      · have gp : Nat.gcd a.natAbs b ≤ b := Nat.gcd_le_right _ (by omega)
        have gi : gl (iz a).toInt64 (nI b).toInt64 = lN (Nat.gcd a.natAbs b) := by unfold gl; rw [ai, bi, Int.natAbs_natCast]
        have nma : nm (iz a).toInt64 := by unfold nm; rw [ai]; omega
        have nmb : nm (nI b).toInt64 := by unfold nm; rw [bi]; omega
        by_cases hg : Nat.gcd a.natAbs b = 1
        · have hR : Ro a b := ⟨by omega, ha, by rw [Int.natAbs_natCast]; exact hg⟩
          obtain ⟨I1, J1, t, c1, c2, c3, c4, c5⟩ := FI_add (w := w) hd hR a0 hv hF
          obtain ⟨I', J', d1, d2, d3, d4⟩ := ih (b + 1) f I1 J1 (by omega) (by omega) (by omega) (by rw [c4 _ (by omega)]; exact hJ) (by rw [← nx]; exact c3)
          refine ⟨I', J', ?_, d2, fun q hq => (d3 q hq).trans (c4 q hq), fun q q1 q2 q3 q4 => (d4 q q1 q2 q3 q4).trans (c5 q q1 q2 q3 q4)⟩
          rw [st, ← d1]
          rw [← bz] at c1 c2
          unfold Un_findRoots_30b Un_findRoots_83
          rw [if_neg n9, if_neg (fun q => a0 ((iz_0 (by omega)).mp q)), nv_30_2, pa_1' pa_44, Po_valueAtMinus_s (isPa_be pa_44 w), bn1_s, hJ, if_pos (i64_e0.mpr (vi.trans hv)), Lm_commonDivisor_s nma nmb, bn1_s, gi, hg, if_pos (by decide), c1, bn2_s, c2, bn1_s, nI_1]
        · apply skip (fun hR _ => absurd (by have := hR.2.2; rw [Int.natAbs_natCast] at this; exact this) hg)
          unfold Un_findRoots_30b Un_findRoots_83
          rw [if_neg n9, if_neg (fun q => a0 ((iz_0 (by omega)).mp q)), nv_30_2, pa_1' pa_44, Po_valueAtMinus_s (isPa_be pa_44 w), bn1_s, hJ, if_pos (i64_e0.mpr (vi.trans hv)), Lm_commonDivisor_s nma nmb, bn1_s, gi, if_neg (fun q => hg ((lN_1' (by omega)).mp q)), nI_1]
      · apply skip (fun _ _ => hv)
        unfold Un_findRoots_30b Un_findRoots_83
        rw [if_neg n9, if_neg (fun q => a0 ((iz_0 (by omega)).mp q)), nv_30_2, pa_1' pa_44, Po_valueAtMinus_s (isPa_be pa_44 w), bn1_s, hJ, if_neg (fun q => hv (by rw [← vi]; exact i64_e0.mp q)), nI_1]
theorem fr_out {w : Nat → Bool} {Hr : Nat → Int64} {dH : Nat} (hd : dH ≤ 3) (hH : ∀ i, i < 4 → lb (Hr i) 9) : ∀ (r : Nat) (a : Int) (fuel : Nat) (I : HI) (J : HJ), a + r = 10 → -9 ≤ a → r < fuel → J (be w 44 + 1) = Hr → FI Hr dH (ps a 1) I J → ∃ (I' : HI) (J' : HJ), Un_findRoots_22 (nn w) 30 fuel I J (iz a) = some (I', J') ∧ FI Hr dH (ps 10 1) I' J' ∧ (∀ q, q ≠ 50 → J' q = J q) ∧ (∀ q, q ≠ 30 → q ≠ 53 → q ≠ 54 → q ≠ 55 → I' q = I q) := by
  have q44 := ab_be (w := w) (p := 44)
  intro r
  induction r with
  | zero =>
    intro a fuel I J hr ha hf hJ hF
    obtain rfl : a = 10 := by omega
    obtain ⟨f, rfl⟩ : ∃ f, fuel = f + 1 := ⟨fuel - 1, by omega⟩
    refine ⟨I, J, ?_, hF, fun _ _ => rfl, fun _ _ _ _ _ => rfl⟩
    show Un_findRoots_22b (nn w) 30 (Un_findRoots_22 (nn w) 30 f) I J (iz 10) = _
    unfold Un_findRoots_22b
    rw [if_pos (by decide)]
  | succ r ih =>
    intro a fuel I J hr ha hf hJ hF
    obtain ⟨f, rfl⟩ : ∃ f, fuel = f + 1 := ⟨fuel - 1, by omega⟩
    obtain ⟨I1, J1, c1, c2, c3, c4⟩ := fr_in (w := w) (K := Un_findRoots_22 (nn w) 30 f) hd (a := a) (by omega) hH 9 1 256 I J (by decide) (by decide) (by decide) hJ hF
    obtain ⟨I', J', d1, d2, d3, d4⟩ := ih (a + 1) f I1 J1 (by omega) (by omega) (by omega) (by rw [c3 _ (by omega)]; exact hJ) c2
    refine ⟨I', J', ?_, d2, fun q hq => (d3 q hq).trans (c3 q hq), fun q q1 q2 q3 q4 => (d4 q q1 q2 q3 q4).trans (c4 q q1 q2 q3 q4)⟩
    rw [← d1, ← c1]
    show Un_findRoots_22b (nn w) 30 (Un_findRoots_22 (nn w) 30 f) I J (iz a) = _
    unfold Un_findRoots_22b
    rw [if_neg (fun q => by
      rw [Int32.lt_iff_toInt_lt, iz_i (by omega), show (9 : Int32).toInt = 9 from rfl] at q; omega)]
    rfl
theorem fr_s {w : Nat → Bool} {dH : Nat} {I : HI} {J : HJ} (hd : dH ≤ 3) (hQ : Qr dH 0 (J (be w 44 + 1))) : ∃ (I' : HI) (J' : HJ), Un_findRoots (nn w) 30 I J = some (I', J') ∧ FI (J (be w 44 + 1)) dH 171 I' J' ∧ (∀ q, q ≠ 50 → J' q = J q) ∧ (∀ q, q ≠ 30 → q ≠ 53 → q ≠ 54 → q ≠ 55 → I' q = I q) := by
  have q44 := ab_be (w := w) (p := 44)
  obtain ⟨J1, hJ1⟩ : ∃ J1 : HJ, J1 = va_up J 50 (wrk 7 (J 50) (J (be w 44 + 1))) := ⟨_, rfl⟩
  have r50 : ∀ i, i < 7 → J1 50 i = J (be w 44 + 1) i := fun i hi => by rw [hJ1, va_up_at, wrk_lt hi]
  have e4 : E4 (ri (J (be w 44 + 1))) (ri (J1 50)) := fun i hi => by show _ = (J1 50 i).toInt; rw [r50 i (by omega)]
  have Q1 : Qr dH 0 (J1 50) := ⟨fun i hi => by rw [r50 i (by omega)]; exact hQ.1 i hi, fun i h1 h2 => by rw [r50 i h2]; exact hQ.2.1 i h1 h2, fun i hi h => by rw [r50 i (by omega)]; exact hQ.2.2.1 i hi h, by obtain ⟨i, hi, h⟩ := hQ.2.2.2; exact ⟨i, hi, by rw [r50 i (by omega)]; exact h⟩⟩
  have F0 : FI (J (be w 44 + 1)) dH (ps (-9) 1) (up2 I 30 9 0) J1 := by
    refine ⟨0, 0, fun _ => 0, fun _ => 0, Q1, e4, fun a b r a0 => ⟨fun q => ?_, fun _ => ⟨by rw [V_E e4], fun _ => by rw [D_E e4]⟩⟩, Nat.le_refl 0, by rw [up2_at, va_up_at]; rfl, fun i hi => by omega, fun i j h1 h2 => by omega, fun x hx => ⟨fun ⟨i, hi, _⟩ => by omega, fun q => ?_⟩⟩
    · have := r.1; have := r.2.1; unfold ps at q; omega
    · have r := (tRo hx).1; have := r.1; have := r.2.1; have := q.2; unfold ps at this; omega
  obtain ⟨I', J', c1, c2, c3, c4⟩ := fr_out (w := w) hd hQ.1 19 (-9) 256 (up2 I 30 9 0) J1 (by decide) (by decide) (by decide) (by rw [hJ1, va_up_of (by omega)]) F0
  refine ⟨I', J', ?_, c2, fun q hq => by rw [c3 q hq, hJ1, va_up_of hq], fun q q1 q2 q3 q4 => by rw [c4 q q1 q2 q3 q4, up2_of q1]⟩
  unfold Un_findRoots Un_findRoots_0
  rw [bd_e, nv_30_3, nv_30_2, pa_1' pa_44, Po_load_s po_49 (isPa_be pa_44 w) (by omega), bn1_s, ← hJ1]
  exact c1
