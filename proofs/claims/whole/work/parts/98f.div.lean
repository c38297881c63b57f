abbrev oi (z : Int) : Int64 := Int64.ofInt z
theorem oi_t (x : Int64) : oi x.toInt = x := Int64.ofInt_toInt x
theorem oi_mul (a b : Int) : oi (a * b) = oi a * oi b := Int64.ofInt_mul a b
theorem oi_add (a b : Int) : oi (a + b) = oi a + oi b := Int64.ofInt_add a b
theorem oi_sub (a b : Int) : oi (a - b) = oi a - oi b := Int64.ofInt_sub a b
theorem oi_neg (a : Int) : oi (-a) = -oi a := Int64.ofInt_neg a
theorem oi_i {z : Int} {n : Nat} (h : z.natAbs ≤ n) (hn : n < 2 ^ 63) : (oi z).toInt = z := Int64.toInt_ofInt_of_le (by omega) (by omega)
theorem iz_l {z : Int} (h : -100 ≤ z ∧ z ≤ 100) : (iz z).toInt64 = oi z := by
  apply Int64.toInt_inj.mp
  rw [Int32.toInt_toInt64, iz_i h, oi_i (n := 100) (by omega) (by decide)]
theorem vam_o {c : Nat → Int64} {U D : Int64} : vam c U D = oi (Vv (fun i => (c i).toInt) U.toInt D.toInt) := by
  unfold Vv vam
  simp only [oi_sub, oi_add, oi_mul, oi_t]
  grind
theorem abs_m3 {f x y z : Int} {B : Nat} (hf : f.natAbs ≤ B) (hx : x.natAbs ≤ 9) (hy : y.natAbs ≤ 9) (hz : z.natAbs ≤ 9) : (f * (x * y * z)).natAbs ≤ B * 729 := by
  rw [Int.natAbs_mul, Int.natAbs_mul, Int.natAbs_mul]
  exact Nat.mul_le_mul hf (Nat.mul_le_mul (Nat.mul_le_mul hx hy) hz)
theorem V_b {f : Nat → Int} {x y : Int} {B : Nat} (hf : ∀ i, i < 4 → (f i).natAbs ≤ B) (hx : x.natAbs ≤ 9) (hy : y.natAbs ≤ 9) : (Vv f x y).natAbs ≤ B * 2916 := by
  have h0 := abs_m3 (hf 0 (by decide)) hy hy hy
  have h1 := abs_m3 (hf 1 (by decide)) hx hy hy
  have h2 := abs_m3 (hf 2 (by decide)) hx hx hy
  have h3 := abs_m3 (hf 3 (by decide)) hx hx hx
  unfold Vv
  omega
theorem vam_i {c : Nat → Int64} {U D : Int64} {B : Nat} (hf : ∀ i, i < 4 → lb (c i) B) (hx : U.toInt.natAbs ≤ 9) (hy : D.toInt.natAbs ≤ 9) (hB : B * 2916 < 2 ^ 63) : (vam c U D).toInt = Vv (fun i => (c i).toInt) U.toInt D.toInt := by
  rw [vam_o]
  exact oi_i (V_b hf hx hy) hB
/-- one step of the division by a root -/
theorem dv_st {r U D : Int64} {q q' : Int} {B : Nat} (h : r.toInt = D.toInt * q' + U.toInt * q) (hD : D.toInt ≠ 0) (hb : (D.toInt * q').natAbs ≤ B) (hB : B < 2 ^ 63) (hq : q'.natAbs ≤ B) : (r - U * oi q) / D = oi q' := by
  have e : r - U * oi q = oi (D.toInt * q') := by
    have : D.toInt * q' = r.toInt - U.toInt * q := by omega
    rw [this]
    unfold oi
    rw [Int64.ofInt_sub, Int64.ofInt_mul]
    show r - U * oi q = oi r.toInt - oi U.toInt * oi q
    rw [oi_t, oi_t]
  rw [e]
  apply Int64.toInt_inj.mp
  rw [dv_i (n := B) (by unfold lb; rw [oi_i hb hB]; exact hb) hB, oi_i hb hB, oi_i hq hB]
  exact tdiv_c rfl hD
theorem dbr_st {a k n : Nat} {w : Nat → Bool} {J : HJ} {U D x : Int64} (h : isPo a) (hk : k < 7) (hD : ¬ D = 0) : Po_divideByRoot_7 (nn w) a U D (n + 1) J x (nI k) = Po_divideByRoot_7 (nn w) a U D n (up2 J (a + 1) k x) ((J (a + 1) k - U * x) / D) (nI k + (-1)) := by
  show Po_divideByRoot_7b (nn w) a U D (Po_divideByRoot_7 (nn w) a U D n) J x (nI k) = _
  unfold Po_divideByRoot_7b
  rw [if_neg (nI_pos (by omega)), if_neg hD, po_ra h, gd_of (by rw [po_ln h]; exact inb_nI hk (by decide)), gd_of (decide_eq_true hD), bd_e, po_ra h, gd_of (by rw [po_ln h]; exact inb_nI hk (by decide)), bd_e, nI_clamp (by omega)]
theorem mu_b {a b : Int} {g f : Nat → Int} {B : Nat} (h : Mu a b g f) (hb : 1 ≤ b ∧ b ≤ 9) (ha : a.natAbs ≤ 9) (hf : ∀ i, i < 4 → (f i).natAbs ≤ B) : (g 2).natAbs ≤ B ∧ (g 1).natAbs ≤ 10 * B ∧ (g 0).natAbs ≤ 91 * B := by
  obtain ⟨f0, f1, f2, f3, f4⟩ := h
  have ge : ∀ x : Int, x.natAbs ≤ (b * x).natAbs := fun x => by rw [Int.natAbs_mul]; exact Nat.le_mul_of_pos_left _ (by omega)
  have ab : ∀ (x : Int) (M : Nat), x.natAbs ≤ M → (a * x).natAbs ≤ 9 * M := fun x M hx => by rw [Int.natAbs_mul]; exact Nat.mul_le_mul ha hx
  have g2 : (g 2).natAbs ≤ B := by have := ge (g 2); have := hf 3 (by decide); rw [f3] at this; omega
  have g1 : (g 1).natAbs ≤ 10 * B := by have := ge (g 1); have := hf 2 (by decide); have := ab (g 2) B g2; omega
  have g0 : (g 0).natAbs ≤ 91 * B := by have := ge (g 0); have := hf 1 (by decide); have := ab (g 1) (10 * B) g1; omega
  exact ⟨g2, g1, g0⟩
theorem dbr_s {a : Nat} {w : Nat → Bool} {J : HJ} {U D : Int64} {B : Nat} {g : Nat → Int} (h : isPo a) (hm : Mu U.toInt D.toInt g (fun i => (J (a + 1) i).toInt)) (hD : 1 ≤ D.toInt ∧ D.toInt ≤ 9) (hU : U.toInt.natAbs ≤ 9) (hf : ∀ i, i < 4 → lb (J (a + 1) i) B) (hz : ∀ i, 4 ≤ i → i < 7 → J (a + 1) i = 0) (hB : B * 1000 < 2 ^ 63) : ∃ J' : HJ, Po_divideByRoot (nn w) a U D J = some J' ∧ (∀ i, i < 4 → (J' (a + 1) i).toInt = g i) ∧ (∀ i, 4 ≤ i → i < 7 → J' (a + 1) i = 0) ∧ ∀ r, r ≠ a + 1 → J' r = J r := by
  obtain ⟨g2, g1, g0⟩ := mu_b hm hD hU hf
  obtain ⟨f0, f1, f2, f3, f4⟩ := hm
  have D0 : ¬ D = 0 := i64_ne.mpr (by omega)
  have db : ∀ (x : Int) (M : Nat), x.natAbs ≤ M → (D.toInt * x).natAbs ≤ 9 * M := fun x M hx => by rw [Int.natAbs_mul]; exact Nat.mul_le_mul (by omega) hx
  have z0 : ∀ i, 4 ≤ i → i < 7 → (J (a + 1) i - U * oi 0) / D = oi 0 := fun i h1 h2 => dv_st (B := 0) (by rw [hz i h1 h2]; rw [Int.mul_zero, Int.mul_zero]; rfl) (by omega) (by rw [Int.mul_zero]; decide) (by decide) (by decide)
  have s3 : (J (a + 1) 3 - U * oi 0) / D = oi (g 2) := dv_st (B := 9 * B) (by rw [Int.mul_zero, Int.add_zero]; exact f3) (by omega) (db _ _ g2) (by omega) (by omega)
  have s2 : (J (a + 1) 2 - U * oi (g 2)) / D = oi (g 1) := dv_st (B := 9 * (10 * B)) f2 (by omega) (db _ _ g1) (by omega) (by omega)
  have s1 : (J (a + 1) 1 - U * oi (g 1)) / D = oi (g 0) := dv_st (B := 9 * (91 * B)) f1 (by omega) (db _ _ g0) (by omega) (by omega)
  unfold Po_divideByRoot Po_divideByRoot_0
  rw [show (0 : Int64) = oi 0 from rfl, show (6 : Int32) = nI 6 from rfl, show (256 : Nat) = 249 + 1 + 1 + 1 + 1 + 1 + 1 + 1 from rfl]
  rw [dbr_st h (by decide) D0, z0 6 (by decide) (by decide), nI_m1]
  rw [dbr_st h (by decide) D0, up2_at, va_up_of (by decide), z0 5 (by decide) (by decide), nI_m1]
  rw [dbr_st h (by decide) D0, up2_at, va_up_of (by decide), up2_at, va_up_of (by decide), z0 4 (by decide) (by decide), nI_m1]
  rw [dbr_st h (by decide) D0, up2_at, va_up_of (by decide), up2_at, va_up_of (by decide), up2_at, va_up_of (by decide), s3, nI_m1]
  rw [dbr_st h (by decide) D0, up2_at, va_up_of (by decide), up2_at, va_up_of (by decide), up2_at, va_up_of (by decide), up2_at, va_up_of (by decide), s2, nI_m1]
  rw [dbr_st h (by decide) D0, up2_at, va_up_of (by decide), up2_at, va_up_of (by decide), up2_at, va_up_of (by decide), up2_at, va_up_of (by decide), up2_at, va_up_of (by decide), s1, nI_m1]
  rw [dbr_st h (by decide) D0]
  obtain ⟨J', hJ'⟩ : ∃ J' : HJ, J' = up2 (up2 (up2 (up2 (up2 (up2 (up2 J (a + 1) 6 (oi 0)) (a + 1) 5 (oi 0)) (a + 1) 4 (oi 0)) (a + 1) 3 (oi 0)) (a + 1) 2 (oi (g 2))) (a + 1) 1 (oi (g 1))) (a + 1) 0 (oi (g 0)) := ⟨_, rfl⟩
  rw [← hJ']
  have row : J' (a + 1) = va_up (va_up (va_up (va_up (va_up (va_up (va_up (J (a + 1)) 6 (oi 0)) 5 (oi 0)) 4 (oi 0)) 3 (oi 0)) 2 (oi (g 2))) 1 (oi (g 1))) 0 (oi (g 0)) := by
    rw [hJ', up2_at, up2_at, up2_at, up2_at, up2_at, up2_at, up2_at]
  refine ⟨J', rfl, fun i hi => ?_, fun i h1 h2 => ?_, fun r hr => by rw [hJ', up2_of hr, up2_of hr, up2_of hr, up2_of hr, up2_of hr, up2_of hr, up2_of hr]⟩
  · rw [row]
    rcases (show i = 0 ∨ i = 1 ∨ i = 2 ∨ i = 3 by omega) with rfl | rfl | rfl | rfl
    · rw [va_up_at]; exact oi_i g0 (by omega)
    · rw [va_up_of (by decide), va_up_at]; exact oi_i g1 (by omega)
    · rw [va_up_of (by decide), va_up_of (by decide), va_up_at]; exact oi_i g2 (by omega)
    · rw [va_up_of (by decide), va_up_of (by decide), va_up_of (by decide), va_up_at, f4]; rfl
  · rw [row]
    rcases (show i = 4 ∨ i = 5 ∨ i = 6 by omega) with rfl | rfl | rfl
    · rw [va_up_of (by decide), va_up_of (by decide), va_up_of (by decide), va_up_of (by decide), va_up_at]
    · rw [va_up_of (by decide), va_up_of (by decide), va_up_of (by decide), va_up_of (by decide), va_up_of (by decide), va_up_at]
    · rw [va_up_of (by decide), va_up_of (by decide), va_up_of (by decide), va_up_of (by decide), va_up_of (by decide), va_up_of (by decide), va_up_at]
