theorem tm15 {k : Nat} (h : k < 7) : inb (nI k) (Tm 15).2 = true := inb_nI h (by decide)
/-- the slope of the reference's lower row -/
def slr (h : Nat → Int64) (i : Nat) : Int64 := if i < 6 then (nI (i + 1)).toInt64 * h (i + 1) else 0
theorem slopes_s {J : HJ} : ∃ J' : HJ, Mo_slopes N_m 0 J = some J' ∧ (∀ i, i < 7 → J' 15 i = slr (J 10) i) ∧ ∀ q, q ≠ 15 → J' q = J q := by
  unfold Mo_slopes Mo_slopes_0
  have key := up_loop (fun n (S : HJ) y => Mo_slopes_2 N_m 0 n S y) (fun k => va_up J 15 (wrk k (J 15) (slr (J 10)))) (some (va_up J 15 (wrk 7 (J 15) (slr (J 10))))) 6 (fun n k hk => ?_) (fun n => ?_) 256 0 (by decide) (by decide)
  · rw [wrk_0, va_up_id] at key
    exact ⟨_, key, fun i hi => by rw [va_up_at, wrk_lt hi], fun q hq => va_up_of hq⟩
  · show Mo_slopes_2b N_m 0 (Mo_slopes_2 N_m 0 n) _ (nI k) = _
    unfold Mo_slopes_2b
    rw [if_neg (n6 hk), mv_22, mv_16, nI_1, gd_of (tm10 (by omega)), gd_of (tm15 (by omega)), bd_e, nI_clamp (by omega), nI_clamp (by omega), va_up_of (show (10 : Nat) ≠ 15 by decide), up2_va, show (nI (k + 1)).toInt64 * J 10 (k + 1) = slr (J 10) k from by unfold slr; rw [if_pos hk], wrk_s (g := slr (J 10))]
  · show Mo_slopes_2b N_m 0 (Mo_slopes_2 N_m 0 n) _ (nI 6) = _
    unfold Mo_slopes_2b
    rw [if_pos (by decide), mv_22, gd_of (show inb (6 : Int32) (Tm 15).2 = true from tm15 (k := 6) (by decide)), bd_e, show (6 : Int32).toNatClampNeg = 6 from rfl, up2_va, show (0 : Int64) = slr (J 10) 6 from rfl, wrk_s (g := slr (J 10))]
theorem slr_i {h : Nat → Int64} {i : Nat} (hi : i < 6) (hb : lb (h (i + 1)) 9) : (slr h i).toInt = ((i + 1 : Nat) : Int) * (h (i + 1)).toInt := by
  unfold slr
  have e : (nI (i + 1)).toInt64.toInt = ((i + 1 : Nat) : Int) := by rw [nI_iz (by omega), iz_l (by omega), oi_i (n := 10) (by omega) (by decide)]
  rw [if_pos hi, mul_i (a := 6) (b := 9) (by unfold lb; rw [e]; omega) hb (by decide), e]
/-- the arm that a pole at a root gives -/
def yrow (x : Nat) (R0 R1 u d : Int64) : Nat → Int32 := if x = 0 then arow 0 R0.toInt32 R1.toInt32 d.toInt32 u.toInt32 else arow 1 d.toInt32 u.toInt32 R0.toInt32 R1.toInt32
def hy4 (R0 R1 u d : Int64) : Prop := (u.toInt ≤ 99 ∧ d.toInt ≤ 99) ∧ R0.toInt ≤ 99 ∧ R1.toInt ≤ 99
theorem iz_neg {a : Int} : -iz a = iz (-a) := by
  unfold iz
  rw [Int32.ofInt_neg]
theorem by_pos {u d : Int64} {a b : Int} (lu : lb u 100000000) (ld : lb d 100000000) (hR : Ro a b) (ha : 0 < a) (hu : 0 < u.toInt) (hd : 0 < d.toInt) : lb (u * oi b) 900000000 ∧ lb (d * oi a) 900000000 ∧ ¬ d * oi a = 0 ∧ 0 < ((u * oi b) / fg (u * oi b) (d * oi a)).toInt ∧ 0 < ((d * oi a) / fg (u * oi b) (d * oi a)).toInt := by
  have h1 := hR.1
  have h2 := hR.2.1
  have ai : (oi a).toInt = a := oi_i (n := 9) (by omega) (by decide)
  have bi : (oi b).toInt = b := oi_i (n := 9) (by omega) (by decide)
  have la : lb (oi a) 9 := by unfold lb; rw [ai]; omega
  have lb' : lb (oi b) 9 := by unfold lb; rw [bi]; omega
  have m1 := mul_i lu lb' (by decide)
  have m2 := mul_i ld la (by decide)
  have l1 := lb_mul lu lb' (by decide)
  have l2 := lb_mul ld la (by decide)
  rw [bi] at m1
  rw [ai] at m2
  have p1 := Int.mul_pos hu (show 0 < b by omega)
  have p2 := Int.mul_pos hd ha
  rw [← m1] at p1
  rw [← m2] at p2
  have n2 : ¬ d * oi a = 0 := i64_ne.mpr (by omega)
  obtain ⟨f1, f2, f3⟩ := fg_low (n := 900000000) l1 l2 (by decide) n2
  refine ⟨l1, l2, n2, ?_, f1⟩
  have := Int.mul_pos f1 p1
  rw [← f2, Int.mul_comm] at this
  exact Int.pos_of_mul_pos_right this (by omega)
theorem cboth {x m : Nat} {w : Nat → Bool} {I : HI} {J : HJ} {A : Nat → Int32} {c2 : Int32} {R0 R1 u d : Int64} (hxx : x < 2) (h0 : J 51 0 = u) (h1 : J 51 1 = d) (h2 : J 52 0 = R0) (h3 : J 52 1 = R1) (hL : RL m (I 31 1) c2 (fun k => I (33 + k)) A) (hv : vc A m + 2 ≤ 6) (hh : hy4 R0 R1 u d) (u1 : 0 < u.toInt) (d1 : 0 < d.toInt) (r1 : 0 < R0.toInt) (r2 : 0 < R1.toInt) : ∃ I' : HI, Un_addBoth J (nn w) 30 (nI x) I = some I' ∧ RL (m + 1) (I' 31 1) (nI (m + 1)) (fun k => I' (33 + k)) (wrs (5 * m) 5 A (yrow x R0 R1 u d)) ∧ (∀ a, a < 31 ∨ a = 32 ∨ 38 < a → I' a = I a) ∧ vc (wrs (5 * m) 5 A (yrow x R0 R1 u d)) (m + 1) ≤ vc A m + 2 := by
  obtain ⟨_, c1, _, rows, aoks, _⟩ := hL
  obtain ⟨k1, k2⟩ := handy_vok d1 hh.1.2 u1 hh.1.1
  obtain ⟨k3, k4⟩ := handy_vok r1 hh.2.1 r2 hh.2.2
  have vnew : ∀ (P u v x y : Int32), vc (wrs (5 * m) 5 A (arow P u v x y)) (m + 1) ≤ vc A m + 2 := by
    intro P u v x y
    show vc _ m + (v1 (wrs (5 * m) 5 A (arow P u v x y) (5 * m + 1)) + v1 (wrs (5 * m) 5 A (arow P u v x y) (5 * m + 3))) ≤ _
    rw [vc_congr (B := A) m (fun i hi => arow_lo hi)]
    have := v1_1 (wrs (5 * m) 5 A (arow P u v x y) (5 * m + 1))
    have := v1_1 (wrs (5 * m) 5 A (arow P u v x y) (5 * m + 3))
    omega
  have w1 : ∀ y : Int32, v1 y ≤ 1 := v1_1
  unfold Un_addBoth Un_addBoth_0
  rw [nv_30_5, bd_e, nv_30_5, bd_e, nv_30_4, bd_e, nv_30_4, bd_e, h0, h1, h2, h3]
  rcases (show x = 0 ∨ x = 1 by omega) with rfl | rfl
  · obtain ⟨I', g1, g2, g3⟩ := built_add (w := w) (p := nI 0) c1 rows aoks (Or.inl rfl) k3 k1 (fun q => k4 q.1) (by have := w1 R0.toInt32; have := w1 d.toInt32; omega)
    rw [if_pos (by decide), nv_30_0, g1, bn2_s]
    exact ⟨I', rfl, g2, g3, vnew _ _ _ _ _⟩
  · obtain ⟨I', g1, g2, g3⟩ := built_add (w := w) (p := nI 1) c1 rows aoks (Or.inr rfl) k1 k3 (fun q => k2 q.1) (by have := w1 R0.toInt32; have := w1 d.toInt32; omega)
    rw [if_neg (by decide), nv_30_0, g1, bn2_s]
    exact ⟨I', rfl, g2, g3, vnew _ _ _ _ _⟩
theorem croot_bad {x i k : Nat} {w : Nat → Bool} {I : HI} {J : HJ} {T : Int32} (hi : i < 3) (hk : k < 110) (hA : atR I i k T) (h : tA k ≤ 0 ∨ ¬ T ≤ 1) : Un_poleAtRoot (nn w) 30 (nI x) (nI i) I J = some (I, J, -100 - nI (2 + i)) := by
  have tk := t_ok k hk
  have code : Un_poleAtRoot_28 (nn w) 30 (nI x) (nI i) I J = some (I, J, -100 - nI (2 + i)) := by
    show some (I, J, (-100 : Int32) - (nI 2 + nI i)) = _
    rw [nI_add]
  unfold Un_poleAtRoot Un_poleAtRoot_0
  rw [if_neg (nI_pos (by omega)), if_neg (show ¬ (3 : Int32) ≤ nI i from nI_ge (a := i) (b := 3) hi (by decide)), nv_30_6, gd_of (tc53 hi), nI_clamp (by omega), hA.1, nv_30_8, gd_of (tc55 hi), hA.2.2, code]
  have c : iz (tA k) ≤ 0 ↔ tA k ≤ 0 := by rw [Int32.le_iff_toInt_le, iz_i (by omega), i32_0]
  by_cases q : tA k ≤ 0
  · rw [if_pos (c.mpr q)]
  · rw [if_neg (fun z => q (c.mp z))]
    rcases h with h | h
    · exact absurd h q
    · rw [if_neg h]
theorem croot_good {x i k m : Nat} {w : Nat → Bool} {I : HI} {J : HJ} {T : Int32} {A : Nat → Int32} {c2 : Int32} (hxx : x < 2) (hi : i < 3) (hk : k < 110) (hA : atR I i k T) (ha : 0 < tA k) (hT : T ≤ 1) (hb : ∀ i, i < 7 → lb (J (ab w 44 + 1) i) 9 ∧ lb (J (be w 44 + 1) i) 9) (hz : ∀ i, 4 ≤ i → i < 7 → J (be w 44 + 1) i = 0) (hV : Vv (ri (J (be w 44 + 1))) (tA k) (tB k) = 0) (hD : Dd (ri (J (be w 44 + 1))) (tA k) (tB k) ≠ 0) (hL : RL m (I 31 1) c2 (fun k => I (33 + k)) A) (hv : vc A m + 2 ≤ 6) :
    ∃ (u d : Int64) (J1 J2 : HJ), 0 < d.toInt ∧ Nat.gcd u.toInt.natAbs d.toInt.natAbs = 1 ∧ lb u 100000000 ∧ lb d 100000000 ∧ u.toInt * (-tA k * Dd (ri (J (be w 44 + 1))) (tA k) (tB k)) = d.toInt * Vv (ri (J (ab w 44 + 1))) (tA k) (tB k) ∧ (∀ r, r ≠ 50 → r ≠ 51 → r ≠ 52 → J1 r = J r ∧ J2 r = J r) ∧
    (u.toInt = 0 → Un_poleAtRoot (nn w) 30 (nI x) (nI i) I J = some (I, J1, 0)) ∧
    (u.toInt < 0 → Un_poleAtRoot (nn w) 30 (nI x) (nI i) I J = some (I, J1, -100 - nI (2 + i))) ∧
    (0 < u.toInt → ¬ hy4 ((u * oi (tB k)) / fg (u * oi (tB k)) (d * oi (tA k))) ((d * oi (tA k)) / fg (u * oi (tB k)) (d * oi (tA k))) u d → Un_poleAtRoot (nn w) 30 (nI x) (nI i) I J = some (I, J2, -5)) ∧
    (0 < u.toInt → hy4 ((u * oi (tB k)) / fg (u * oi (tB k)) (d * oi (tA k))) ((d * oi (tA k)) / fg (u * oi (tB k)) (d * oi (tA k))) u d → ∃ I' : HI, Un_poleAtRoot (nn w) 30 (nI x) (nI i) I J = some (I', J2, 0) ∧ RL (m + 1) (I' 31 1) (nI (m + 1)) (fun k => I' (33 + k)) (wrs (5 * m) 5 A (yrow x ((u * oi (tB k)) / fg (u * oi (tB k)) (d * oi (tA k))) ((d * oi (tA k)) / fg (u * oi (tB k)) (d * oi (tA k))) u d)) ∧ (∀ a, a < 31 ∨ a = 32 ∨ 38 < a → I' a = I a) ∧ vc (wrs (5 * m) 5 A (yrow x ((u * oi (tB k)) / fg (u * oi (tB k)) (d * oi (tA k))) ((d * oi (tA k)) / fg (u * oi (tB k)) (d * oi (tA k))) u d)) (m + 1) ≤ vc A m + 2) := by
  have q44 := ab_be (w := w) (p := 44)
  have A44 := isPa_ab pa_44 w
  have B44 := isPa_be pa_44 w
  have tk := t_ok k hk
  obtain ⟨hR, a0⟩ := tRo hk
  have aA := hA
  unfold atR at aA
  clear hA
  generalize tA k = a at *
  generalize tB k = b at *
  have h1 := hR.1
  have h2 := hR.2.1
  have bne : b ≠ 0 := by omega
  have al : (iz a).toInt64 = oi a := iz_l (by omega)
  have bl : (iz b).toInt64 = oi b := iz_l (by omega)
  have nal : (-iz a).toInt64 = oi (-a) := by rw [iz_neg, iz_l (by omega)]
  have ai : (oi a).toInt = a := oi_i (n := 9) (by omega) (by decide)
  have bi : (oi b).toInt = b := oi_i (n := 9) (by omega) (by decide)
  have nai : (oi (-a)).toInt = -a := oi_i (n := 9) (by omega) (by decide)
  obtain ⟨K1, hK1⟩ : ∃ K1 : HJ, K1 = va_up J 50 (wrk 7 (J 50) (J (be w 44 + 1))) := ⟨_, rfl⟩
  have r50 : ∀ i, i < 7 → K1 50 i = J (be w 44 + 1) i := fun i hi => by rw [hK1, va_up_at, wrk_lt hi]
  have e4 : E4 (ri (J (be w 44 + 1))) (ri (K1 50)) := fun i hi => by show _ = (K1 50 i).toInt; rw [r50 i (by omega)]
  obtain ⟨g, hm, gz⟩ := mu_ex hR.2.2 bne hV
  have hm1 : Mu (oi a).toInt (oi b).toInt g (fun i => (K1 (49 + 1) i).toInt) := by rw [ai, bi]; exact mu_E hm e4
  obtain ⟨K2, c1, c2', c3, c4⟩ := dbr_s (w := w) (J := K1) (a := 49) (U := oi a) (D := oi b) (B := 9) (g := g) po_49 hm1 (by omega) (by omega) (fun i hi => by show lb (K1 50 i) 9; rw [r50 i (by omega)]; exact (hb i (by omega)).2) (fun i q1 q2 => by show K1 50 i = 0; rw [r50 i q2]; exact hz i q1 q2) (by decide)
  obtain ⟨g2, g1, g0⟩ := mu_b (B := 9) hm h1 (by omega) (fun i hi => (hb i (by omega)).2)
  have l50 : ∀ i, i < 4 → lb (K2 50 i) 819 := fun i hi => by
    have : (K2 50 i).toInt = g i := c2' i hi
    unfold lb
    rw [this]
    rcases (show i = 0 ∨ i = 1 ∨ i = 2 ∨ i = 3 by omega) with rfl | rfl | rfl | rfl
    · omega
    · omega
    · omega
    · rw [gz 3 (by decide)]; decide
  have kG : K2 (ab w 44 + 1) = J (ab w 44 + 1) := by rw [c4 _ (by omega), hK1, va_up_of (by omega)]
  have vG := vam_i (c := J (ab w 44 + 1)) (U := oi a) (D := oi b) (B := 9) (fun i hi => (hb i (by omega)).1) (by omega) (by omega) (by decide)
  have vg := vam_i (c := K2 50) (U := oi a) (D := oi b) (B := 819) l50 (by omega) (by omega) (by decide)
  rw [ai, bi] at vG vg
  have vgD : (vam (K2 50) (oi a) (oi b)).toInt = Dd (ri (J (be w 44 + 1))) a b := by
    rw [vg, mu_Ds hm bne]
    exact V_E (fun i hi => c2' i hi)
  have lG : lb (vam (J (ab w 44 + 1)) (oi a) (oi b)) 26244 := by
    unfold lb; rw [vG]; exact V_b (B := 9) (fun i hi => (hb i (by omega)).1) (by omega) (by omega)
  have lg : lb (vam (K2 50) (oi a) (oi b)) 2388204 := by
    unfold lb; rw [vg]; exact V_b (B := 819) l50 (by omega) (by omega)
  have lna : lb (oi (-a)) 9 := by unfold lb; rw [nai]; omega
  have mE := mul_i lna lg (by decide)
  have lE := lb_mul lna lg (by decide)
  rw [nai, vgD] at mE
  have E0 : ¬ oi (-a) * vam (K2 50) (oi a) (oi b) = 0 := i64_ne.mpr (by rw [mE]; exact Int.mul_ne_zero (by omega) hD)
  obtain ⟨P, hP⟩ : ∃ P, P = vam (J (ab w 44 + 1)) (oi a) (oi b) := ⟨_, rfl⟩
  obtain ⟨E, hE⟩ : ∃ E, E = oi (-a) * vam (K2 50) (oi a) (oi b) := ⟨_, rfl⟩
  rw [← hP] at vG lG
  rw [← hE] at mE lE E0
  have lP' : lb P 100000000 := lb_mono lG (by decide)
  have lE' : lb E 100000000 := lb_mono lE (by decide)
  obtain ⟨f1, f2, f3⟩ := fg_low lP' lE' (by decide) E0
  obtain ⟨u, hu⟩ : ∃ u, u = P / fg P E := ⟨_, rfl⟩
  obtain ⟨d, hd⟩ : ∃ d, d = E / fg P E := ⟨_, rfl⟩
  have lu : lb u 100000000 := by rw [hu]; exact lb_div lP' (by decide)
  have ld : lb d 100000000 := by rw [hd]; exact lb_div lE' (by decide)
  rw [← hd] at f1
  rw [← hu, ← hd] at f2 f3
  rw [mE, vG] at f2
  obtain ⟨J1, hJ1⟩ : ∃ J1 : HJ, J1 = up2 (up2 K2 51 0 u) 51 1 d := ⟨_, rfl⟩
  have j0 : J1 51 0 = u := by rw [hJ1, up2_at, va_up_of (by decide), up2_at, va_up_at]
  have j1 : J1 51 1 = d := by rw [hJ1, up2_at, va_up_at]
  obtain ⟨R0, hR0⟩ : ∃ R0, R0 = (u * oi b) / fg (u * oi b) (d * oi a) := ⟨_, rfl⟩
  obtain ⟨R1, hR1⟩ : ∃ R1, R1 = (d * oi a) / fg (u * oi b) (d * oi a) := ⟨_, rfl⟩
  obtain ⟨J2, hJ2⟩ : ∃ J2 : HJ, J2 = up2 (up2 J1 52 0 R0) 52 1 R1 := ⟨_, rfl⟩
  have s0 : J2 52 0 = R0 := by rw [hJ2, up2_at, va_up_of (by decide), up2_at, va_up_at]
  have s1 : J2 52 1 = R1 := by rw [hJ2, up2_at, va_up_at]
  have s2 : J2 51 = J1 51 := by rw [hJ2, up2_of (by decide), up2_of (by decide)]
  have fr1 : ∀ r, r ≠ 50 → r ≠ 51 → r ≠ 52 → J1 r = J r := fun r q1 q2 q3 => by rw [hJ1, up2_of q2, up2_of q2, c4 r q1, hK1, va_up_of q1]
  have fr2 : ∀ r, r ≠ 50 → r ≠ 51 → r ≠ 52 → J2 r = J r := fun r q1 q2 q3 => by rw [hJ2, up2_of q3, up2_of q3, fr1 r q1 q2 q3]
  have cP : ¬ iz a ≤ 0 := fun q => by rw [Int32.le_iff_toInt_le, iz_i (by omega), i32_0] at q; omega
  have main : Un_poleAtRoot (nn w) 30 (nI x) (nI i) I J = if u = 0 then some (I, J1, 0) else if (0 : Int64) ≤ u then bn1 (Fr_put 52 (u * oi b) (d * oi a) J1) (fun J40 => bn1 (Fr_isHandy J40 51) (fun r43 => if r43 = 0 then some (I, J40, -5) else bn1 (Fr_isHandy J40 52) (fun r47 => if r47 = 0 then some (I, J40, -5) else bn1 (Un_addBoth J40 (nn w) 30 (nI x) I) (fun I50 => some (I50, J40, 0))))) else some (I, J1, -100 - nI (2 + i)) := by
    unfold Un_poleAtRoot Un_poleAtRoot_0
    rw [if_neg (nI_pos (by omega)), if_neg (show ¬ (3 : Int32) ≤ nI i from nI_ge (a := i) (b := 3) hi (by decide)), nv_30_6, gd_of (tc53 hi), nI_clamp (by omega), aA.1, if_neg cP, nv_30_8, gd_of (tc55 hi), aA.2.2, if_pos hT, nv_30_6, gd_of (tc53 hi), bd_e, aA.1, nv_30_7, gd_of (tc54 hi), bd_e, aA.2.1, nv_30_3, nv_30_2, pa_1' pa_44, Po_load_s po_49 B44 (by omega), bn1_s, ← hK1, nv_30_3, al, bl, c1, bn1_s, nv_30_4, nv_30_2, pa_0 pa_44, Po_valueAtMinus_s A44, bn1_s, kG, nv_30_3, Po_valueAtMinus_s po_49, bn1_s, nal, ← hP]
    rw [show vam (K2 (49 + 1)) (oi a) (oi b) = vam (K2 50) (oi a) (oi b) from rfl, ← hE, Fr_put_s (n := 100000000) lP' lE' (by decide) E0, bn1_s, ← hu, ← hd, ← hJ1, nv_30_4, nv_30_4]
    simp only [nv_30_5, nv_30_4]
    rw [j0, j1, show (2 : Int32) + nI i = nI (2 + i) from nI_add 2 i]
    rfl
  refine ⟨u, d, J1, J2, f1, f3, lu, ld, f2, fun r q1 q2 q3 => ⟨fr1 r q1 q2 q3, fr2 r q1 q2 q3⟩, fun q => ?_, fun q => ?_, fun q hh => ?_, fun q hh => ?_⟩
  · rw [main, if_pos (i64_e0.mpr q)]
  · rw [main, if_neg (i64_ne.mpr (by omega)), if_neg (fun z => by have := le_i.mp z; rw [show (0 : Int64).toInt = 0 from rfl] at this; omega)]
  all_goals
    obtain ⟨b1, b2, b3, b4, b5⟩ := by_pos lu ld hR ha q f1
    have pt : Fr_put 52 (u * oi b) (d * oi a) J1 = some J2 := by rw [Fr_put_s b1 b2 (by decide) b3, hJ2, hR0, hR1]
    rw [← hR0] at b4
    rw [← hR1] at b5
    rw [← hR0, ← hR1] at hh
    rw [main, if_neg (i64_ne.mpr (by omega)), if_pos (le_i.mpr (show (0 : Int64).toInt ≤ u.toInt by rw [show (0 : Int64).toInt = 0 from rfl]; omega)), pt, bn1_s, Fr_isHandy_s (by rw [s2, j0]; exact q), bn1_s, Fr_isHandy_s (by rw [s0]; exact b4), bn1_s, s2, j0, j1, s0, s1]
  · by_cases e1 : u.toInt ≤ 99 ∧ d.toInt ≤ 99
    · rw [decide_eq_true e1, if_neg b2i_t, decide_eq_false (fun z => hh ⟨e1, z⟩), if_pos b2i_f]
    · rw [decide_eq_false e1, if_pos b2i_f]
  · obtain ⟨I', a1, a2, a3, a4⟩ := cboth (x := x) (w := w) (I := I) (J := J2) (A := A) hxx (by rw [s2]; exact j0) (by rw [s2]; exact j1) s0 s1 hL hv hh q f1 b4 b5
    rw [decide_eq_true hh.1, if_neg b2i_t, decide_eq_true hh.2, if_neg b2i_t, a1, bn1_s]
    rw [← hR0, ← hR1]
    exact ⟨I', rfl, a2, a3, a4⟩
