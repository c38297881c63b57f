theorem py_add {y : Int} (m : Nat) : ∀ n, py y (m + n) = py y m * py y n
  | 0 => by show py y m = py y m * 1; rw [Int.mul_one]
  | n + 1 => by
    show py y (m + n) * y = py y m * (py y n * y)
    rw [py_add m n, Int.mul_assoc]
theorem pw_py {b : Int} (hb : b.natAbs ≤ 9) : ∀ e, e ≤ 6 → (pw (oi b) e).toInt = py b e ∧ lb (pw (oi b) e) (9 ^ e) := by
  have bi : (oi b).toInt = b := oi_i (n := 9) hb (by decide)
  have lb' : lb (oi b) 9 := by unfold lb; rw [bi]; exact hb
  intro e
  induction e with
  | zero => exact fun _ => ⟨rfl, lb_pw lb' 0 (by decide)⟩
  | succ e ih =>
    intro he
    have h := ih (by omega)
    have p : 9 ^ e * 9 < 2 ^ 63 := by
      have : 9 ^ e ≤ 9 ^ 6 := Nat.pow_le_pow_right (by decide) (by omega)
      omega
    refine ⟨?_, lb_pw lb' (e + 1) he⟩
    show (pw (oi b) e * oi b).toInt = py b e * b
    rw [mul_i h.2 lb' p, h.1, bi]
/-- the slope's value -/
theorem slope_v {a b : Int} {J : HJ} (hR : Ro a b) (hb : ∀ i, i < 7 → lb (J 10 i) 9) (hz : ∀ i, 4 ≤ i → i < 7 → J 10 i = 0) (hs : ∀ i, i < 7 → J 15 i = slr (J 10) i) (hne : ∃ i, i < 4 ∧ ¬ J 10 i = 0) (hV : Vv (ri (J 10)) a b = 0) : ∃ (ts : Nat) (v : Int64), tp7 (J 15) ts ∧ ts < 3 ∧ Mo_valueAt J 15 (0 - oi a) (oi b) = some v ∧ lb v 78732 ∧ v.toInt * py b (3 - ts) = b * Dd (ri (J 10)) a b := by
  have h1 := hR.1
  have h2 := hR.2.1
  have bne : b ≠ 0 := by omega
  have si : ∀ i, i < 6 → (J 15 i).toInt = ((i + 1 : Nat) : Int) * (J 10 (i + 1)).toInt := fun i hi => by rw [hs i (by omega)]; exact slr_i hi (hb (i + 1) (by omega))
  have s3 : ∀ i, 3 ≤ i → i < 7 → J 15 i = 0 := fun i q1 q2 => by
    by_cases c : i < 6
    · apply i64_e0.mpr
      rw [si i c, i64_e0.mp (hz (i + 1) (by omega) (by omega)), Int.mul_zero]
    · rw [hs i q2]
      unfold slr
      rw [if_neg c]
  have ex : ∃ i, i < 7 ∧ ¬ J 15 i = 0 := by
    apply Classical.byContradiction
    intro q
    obtain ⟨j, hj, hj0⟩ := hne
    apply V_const (f := ri (J 10)) (a := a) bne ⟨j, hj, i64_ne.mp hj0⟩ ?_ hV
    intro i q1 q2
    have z : J 15 (i - 1) = 0 := Classical.byContradiction fun w => q ⟨i - 1, by omega, w⟩
    have := si (i - 1) (by omega)
    rw [z, show i - 1 + 1 = i by omega] at this
    have := Int.mul_eq_zero.mp this.symm
    rcases this with t | t
    · omega
    · exact t
  obtain ⟨ts, ht⟩ := top_ex (f := J 15) 7 (Nat.le_refl 7) (fun i q1 q2 => by omega) ex
  have t3 : ts < 3 := Classical.byContradiction fun q => ht.2.1 (s3 ts (by omega) ht.1)
  have l27 : ∀ i, i < 4 → lb (J 15 i) 27 := fun i hi => by
    unfold lb
    rw [si i (by omega), Int.natAbs_mul, Int.natAbs_natCast]
    have := hb (i + 1) (by omega)
    unfold lb at this
    by_cases c : i < 3
    · exact Nat.le_trans (Nat.mul_le_mul (show i + 1 ≤ 3 by omega) this) (by decide)
    · rw [i64_e0.mp (hz (i + 1) (by omega) (by omega))]
      show (i + 1) * 0 ≤ 27
      omega
  obtain ⟨v, v1, v2, v3, v4⟩ := vat (J := J) (b := 15) (x := a) (y := b) (B := 27) rfl ht (by omega) l27 (by omega) (by omega) (by decide)
  refine ⟨ts, v, ht, t3, v1, v3, ?_⟩
  rw [v4]
  have e0 : (J 15 0).toInt = 1 * (J 10 1).toInt := si 0 (by decide)
  have e1 : (J 15 1).toInt = 2 * (J 10 2).toInt := si 1 (by decide)
  have e2 : (J 15 2).toInt = 3 * (J 10 3).toInt := si 2 (by decide)
  have e3 : (J 15 3).toInt = 0 := i64_e0.mp (s3 3 (by decide) (by decide))
  show (J 15 0).toInt * (b * b * b) - (J 15 1).toInt * (a * b * b) + (J 15 2).toInt * (a * a * b) - (J 15 3).toInt * (a * a * a) = b * ((J 10 1).toInt * (b * b) - 2 * ((J 10 2).toInt * (a * b)) + 3 * ((J 10 3).toInt * (a * a)))
  rw [e0, e1, e2, e3]
  grind
theorem oi_le0 {a : Int} (h : a.natAbs ≤ 9) : oi a ≤ 0 ↔ a ≤ 0 := by
  rw [le_i, oi_i h (by decide)]; exact Iff.rfl
theorem mroot_bad {a b : Int} {i : Nat} {I : HI} {J : HJ} {p1 : Int32} (hR : Ro a b) (hb : ∀ i, i < 7 → lb (J 10 i) 9) (hz : ∀ i, 4 ≤ i → i < 7 → J 10 i = 0) (hs : ∀ i, i < 7 → J 15 i = slr (J 10) i) (hne : ∃ i, i < 4 ∧ ¬ J 10 i = 0) (hV : Vv (ri (J 10)) a b = 0) (h : a ≤ 0 ∨ Dd (ri (J 10)) a b = 0) : Mo_rootOnce N_m 0 p1 (nI i) (oi a) (oi b) I J = some (I, J, -100 - nI i) := by
  obtain ⟨ts, v, t1, t2, t3, t4, t5⟩ := slope_v hR hb hz hs hne hV
  have h1 := hR.1
  have h2 := hR.2.1
  unfold Mo_rootOnce Mo_rootOnce_0 Mo_rootOnce_31
  rw [bd_e, mv_22, t3, bn1_s]
  by_cases c : a ≤ 0
  · rw [if_pos ((oi_le0 (by omega)).mpr c)]
  · rw [if_neg (fun q => c ((oi_le0 (by omega)).mp q))]
    rcases h with h | h
    · exact absurd h c
    · rw [h, Int.mul_zero] at t5
      rw [if_pos (i64_e0.mpr ((Int.mul_eq_zero.mp t5).resolve_right (py_ne (by omega) _)))]
/-- the two numbers of the residue -/
theorem mroot_xy {a b : Int} {i tg : Nat} {I : HI} {J : HJ} {p1 : Int32} (hR : Ro a b) (ha : 0 < a) (hb : ∀ i, i < 7 → lb (J 9 i) 9 ∧ lb (J 10 i) 9) (hg : tp7 (J 9) tg) (g4 : tg < 4) (hz : ∀ i, 4 ≤ i → i < 7 → J 10 i = 0) (hs : ∀ i, i < 7 → J 15 i = slr (J 10) i) (hne : ∃ i, i < 4 ∧ ¬ J 10 i = 0) (hV : Vv (ri (J 10)) a b = 0) (hD : Dd (ri (J 10)) a b ≠ 0) : (Vv (ri (J 9)) a b = 0 → Mo_rootOnce N_m 0 p1 (nI i) (oi a) (oi b) I J = some (I, J, 0)) ∧ (Vv (ri (J 9)) a b ≠ 0 → ∃ X s0 s1 : Int64, Mo_rootOnce N_m 0 p1 (nI i) (oi a) (oi b) I J = Mo_rootOnce_121 N_m 0 p1 (nI i) (oi a) (oi b) I J X s0 s1 ∧ lb X 1000000000 ∧ lb (s0 * s1) 1000000000 ∧ X.toInt ≠ 0 ∧ (s0 * s1).toInt ≠ 0 ∧ X.toInt * (-a * Dd (ri (J 10)) a b) = Vv (ri (J 9)) a b * (s0 * s1).toInt) := by
  obtain ⟨ts, r3, t1, t2, t3, t4, t5⟩ := slope_v hR (fun i hi => (hb i hi).2) hz hs hne hV
  have h1 := hR.1
  have h2 := hR.2.1
  have bne : b ≠ 0 := by omega
  have ai : (oi a).toInt = a := oi_i (n := 9) (by omega) (by decide)
  have la : lb (oi a) 9 := by unfold lb; rw [ai]; omega
  obtain ⟨r8, v1, v2, v3, v4⟩ := vat (J := J) (b := 9) (x := a) (y := b) (B := 9) rfl hg g4 (fun i hi => (hb i (by omega)).1) (by omega) (by omega) (by decide)
  have v3 : lb r8 26244 := v3
  have r30 : r3.toInt ≠ 0 := fun q => by
    rw [q, Int.zero_mul] at t5
    exact Int.mul_ne_zero bne hD t5.symm
  have na : (0 - oi a).toInt = -a := by rw [neg_i la (by decide), ai]
  have lna : lb (0 - oi a) 9 := by unfold lb; rw [na]; omega
  have m3 := mul_i lna t4 (by decide)
  have l3 := lb_mul lna t4 (by decide)
  rw [na] at m3
  have st : Mo_rootOnce N_m 0 p1 (nI i) (oi a) (oi b) I J = if r8 = 0 then some (I, J, 0) else if nI ts + 1 - nI tg ≤ 0 then Mo_rootOnce_95 N_m 0 p1 (nI i) (oi a) (oi b) I J (0 - oi a) r3 (nI ts + 1 - nI tg) r8 1 else bn1 (Mo_power (oi b) (nI ts + 1 - nI tg)) (fun r19 => Mo_rootOnce_95 N_m 0 p1 (nI i) (oi a) (oi b) I J (0 - oi a) r3 (nI ts + 1 - nI tg) r8 r19) := by
    unfold Mo_rootOnce Mo_rootOnce_0
    rw [bd_e, mv_22, t3, bn1_s, if_neg (fun q => by have := (oi_le0 (by omega)).mp q; omega), if_neg (i64_ne.mpr r30), mv_15, v1, bn1_s, mv_22, Mo_top_s rfl, bn1_s, mv_15, Mo_top_s rfl, bn1_s, dgb_tp t1, dgb_tp hg, bd_e]
  have z8 : r8.toInt = 0 ↔ Vv (ri (J 9)) a b = 0 := by
    rw [← v4]
    exact ⟨fun q => by rw [q, Int.zero_mul], fun q => (Int.mul_eq_zero.mp q).resolve_right (py_ne bne _)⟩
  refine ⟨fun q => by rw [st, if_pos (i64_e0.mpr (z8.mpr q))], fun q => ?_⟩
  have r80 : r8.toInt ≠ 0 := fun z => q (z8.mp z)
  rw [st, if_neg (i64_ne.mpr r80), nI_1]
  by_cases c : tg ≤ ts + 1
  · obtain ⟨e, he⟩ : ∃ e, e = ts + 1 - tg := ⟨_, rfl⟩
    have pe := pw_py (b := b) (by omega) e (by omega)
    have e9 : 9 ^ e ≤ 729 := Nat.le_trans (Nat.pow_le_pow_right (by decide) (show e ≤ 3 by omega)) (by decide)
    have pl : lb (pw (oi b) e) 729 := lb_mono pe.2 e9
    have mX := mul_i v3 pl (by decide)
    have lX := lb_mul v3 pl (by decide)
    rw [pe.1] at mX
    have one : ((0 - oi a) * r3 * 1) = (0 - oi a) * r3 := by rw [Int64.mul_one]
    refine ⟨r8 * pw (oi b) e, (0 - oi a) * r3, 1, ?_, lb_mono lX (by decide), by rw [one]; exact lb_mono l3 (by decide), by rw [mX]; exact Int.mul_ne_zero r80 (py_ne bne _), by rw [one, m3]; exact Int.mul_ne_zero (by omega) r30, ?_⟩
    · rw [nI_sub c, ← he]
      unfold Mo_rootOnce_95
      by_cases e0 : e = 0
      · rw [e0, if_pos (by decide), bd_e, if_pos (by decide)]; rfl
      · rw [if_neg (nI_nle (by omega) (by omega)), Mo_power_s (by omega), bn1_s, bd_e, if_pos (nI_pos' (by omega))]
    · rw [one, m3, mX, ← v4]
      apply Int.eq_of_mul_eq_mul_right bne
      have k : py b e * py b (3 - ts) = py b (3 - tg) * b := by
        rw [← py_add, show e + (3 - ts) = (3 - tg) + 1 by omega]; rfl
      have x1 : r8.toInt * py b e * (-a * Dd (ri (J 10)) a b) * b = r8.toInt * (-a) * py b e * (b * Dd (ri (J 10)) a b) := by grind
      rw [x1, ← t5]
      have x2 : r8.toInt * (-a) * py b e * (r3.toInt * py b (3 - ts)) = r8.toInt * (-a) * r3.toInt * (py b e * py b (3 - ts)) := by grind
      rw [x2, k]; grind
  · obtain ⟨e, he⟩ : ∃ e, e = tg - (ts + 1) := ⟨_, rfl⟩
    have pe := pw_py (b := b) (by omega) e (by omega)
    have e9 : 9 ^ e ≤ 729 := Nat.le_trans (Nat.pow_le_pow_right (by decide) (show e ≤ 3 by omega)) (by decide)
    have pl : lb (pw (oi b) e) 729 := lb_mono pe.2 e9
    have mY := mul_i l3 pl (by decide)
    have lY := lb_mul l3 pl (by decide)
    rw [m3, pe.1] at mY
    have ng : nI (ts + 1) - nI tg = 0 - nI e := by
      rw [he, ← nI_sub (show ts + 1 ≤ tg by omega)]
      generalize nI (ts + 1) = y1
      generalize nI tg = y2
      grind
    have nn' : (0 : Int32) - (0 - nI e) = nI e := by
      generalize nI e = y
      grind
    have ni : (0 - nI e).toInt = -(e : Int) := by
      rcases (show e = 1 ∨ e = 2 ∨ e = 3 by omega) with h | h | h <;> rw [h] <;> decide
    refine ⟨r8, (0 - oi a) * r3, pw (oi b) e, ?_, lb_mono v3 (by decide), lb_mono lY (by decide), r80, by rw [mY]; exact Int.mul_ne_zero (Int.mul_ne_zero (by omega) r30) (py_ne bne _), ?_⟩
    · rw [ng]
      unfold Mo_rootOnce_95
      rw [if_pos (by rw [Int32.le_iff_toInt_le, ni, i32_0]; omega), bd_e, if_neg (fun z => by rw [Int32.le_iff_toInt_le, ni, i32_0] at z; omega), nn', Mo_power_s (by omega), bn1_s, Int64.mul_one]
    · rw [mY, ← v4]
      apply Int.eq_of_mul_eq_mul_right bne
      have k : py b (3 - ts) = py b (3 - tg) * py b e * b := by
        rw [← py_add, show 3 - ts = (3 - tg + e) + 1 by omega]; rfl
      have x1 : r8.toInt * (-a * Dd (ri (J 10)) a b) * b = r8.toInt * (-a) * (b * Dd (ri (J 10)) a b) := by grind
      rw [x1, ← t5, k]; grind
