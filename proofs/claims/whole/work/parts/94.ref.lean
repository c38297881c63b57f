/-- the last number of a row that isn't 0 -/
def tp7 (f : Nat → Int64) (t : Nat) : Prop := t < 7 ∧ ¬ f t = 0 ∧ ∀ i, t < i → i < 7 → f i = 0
theorem top_ex {f : Nat → Int64} : ∀ n, n ≤ 7 → (∀ i, n ≤ i → i < 7 → f i = 0) → (∃ i, i < 7 ∧ ¬ f i = 0) → ∃ t, tp7 f t
  | 0, _, hz, ⟨i, hi, hne⟩ => absurd (hz i (by omega) hi) hne
  | n + 1, hn, hz, ex => by
    by_cases h : f n = 0
    · exact top_ex n (by omega) (fun i h1 h2 => by
        by_cases e : i = n
        · subst e; exact h
        · exact hz i (by omega) h2) ex
    · exact ⟨n, by omega, h, fun i h1 h2 => hz i (by omega) h2⟩
theorem dgb_top {f : Nat → Int64} {t : Nat} : ∀ n, t < n → ¬ f t = 0 → (∀ i, t < i → i < n → f i = 0) → dgb n (zl f) = nI t
  | n + 1, h1, h2, h3 => by
    show (if zl f n = true then dgb n (zl f) else nI n) = _
    by_cases e : t = n
    · subst e; rw [if_neg (zl_f h2)]
    · rw [if_pos (zl_t (h3 n (by omega) (by omega)))]
      exact dgb_top n (by omega) h2 (fun i a b => h3 i a (by omega))
theorem dgb_tp {f : Nat → Int64} {t : Nat} (h : tp7 f t) : dgb 7 (zl f) = nI t := dgb_top 7 h.1 h.2.1 h.2.2
theorem dgb_z {f : Nat → Int64} : ∀ n, (∀ i, i < n → f i = 0) → dgb n (zl f) = -1
  | 0, _ => rfl
  | n + 1, h => by
    show (if zl f n = true then dgb n (zl f) else nI n) = _
    rw [if_pos (zl_t (h n (by omega)))]
    exact dgb_z n (fun i hi => h i (by omega))
theorem lwb_low {f : Nat → Int64} {t : Nat} : ∀ m k, k ≤ t → t < m + k → ¬ f t = 0 → (∀ i, k ≤ i → i < t → f i = 0) → lwb m k (zl f) = nI t
  | 0, k, h0, h1, _, _ => by omega
  | m + 1, k, h0, h1, h2, h3 => by
    show (if zl f k = true then lwb m (k + 1) (zl f) else nI k) = _
    by_cases e : t = k
    · subst e; rw [if_neg (zl_f h2)]
    · rw [if_pos (zl_t (h3 k (by omega) (by omega)))]
      exact lwb_low m (k + 1) (by omega) (by omega) h2 (fun i a b => h3 i (by omega) b)
theorem sub_i {x y : Int64} {a b : Nat} (hx : lb x a) (hy : lb y b) (h : a + b < 2 ^ 63) : (x - y).toInt = x.toInt - y.toInt := by
  unfold lb at hx hy
  rw [Int64.toInt_sub, Int.bmod_eq_of_le (by omega) (by omega)]
theorem i64_ne {x : Int64} : ¬ x = 0 ↔ x.toInt ≠ 0 := ⟨fun h q => h (Int64.toInt_inj.mp (q.trans rfl)), fun h q => h (by rw [q]; rfl)⟩
theorem i64_e0 {x : Int64} : x = 0 ↔ x.toInt = 0 := ⟨fun h => by rw [h]; rfl, fun h => Int64.toInt_inj.mp (h.trans rfl)⟩
/-- what ways 0 and 1 leave of the reference's longs -/
def fJ (J J' : HJ) : Prop := ∀ a, a ≠ 0 → a ≠ 7 → a ≠ 8 → J' a = J a
theorem fJ_tr {J J' J'' : HJ} (h : fJ J J') (h2 : fJ J' J'') : fJ J J'' := fun a a1 a2 a3 => (h2 a a1 a2 a3).trans (h a a1 a2 a3)
/-- the arm that a step builds -/
def gx (p : Nat) (u d : Int64) : Int32 := if p = 0 then u.toInt32 else d.toInt32
def hx (p : Nat) (u d : Int64) : Int32 := if p = 0 then d.toInt32 else u.toInt32
def xrow (p x : Nat) (u d : Int64) : Nat → Int32 := if p = x then arow (nI x) (gx p u d) (hx p u d) 0 0 else arow (nI x) 0 0 (gx p u d) (hx p u d)
theorem bnd_j {j : Nat} (hj : j < 6) : sUb j * bP j < 2 ^ 63 ∧ sUb (j + 1) < 2 ^ 63 ∧ sUb (j + 2) < 2 ^ 63 ∧ sUb j < 2 ^ 63 ∧ bR j < 2 ^ 63 ∧ bP j < 2 ^ 63 ∧ bQ j < 2 ^ 63 := by
  rcases (show j = 0 ∨ j = 1 ∨ j = 2 ∨ j = 3 ∨ j = 4 ∨ j = 5 by omega) with rfl | rfl | rfl | rfl | rfl | rfl <;> decide
/-- the end of a step of the reference: the rest, its content, the new scale -/
theorem mrest {j t : Nat} {P Q : Nat → Int} {I : HI} {J K : HJ} {p1 p2 p3 : Int32} (hj : j < 6) (h : Iv j P Q (fun i => (J 7 i).toInt) (fun i => (J 8 i).toInt) (J 0 13).toInt (J 0 14).toInt) (hq : tp7 (J 8) t) (ht : t + 1 < 7) (hK : ∀ a, a ≠ 0 → K a = J a) : ∃ (J' : HJ) (c : Nat), Mo_dividesOnce_181 N_m 0 p1 p2 p3 256 I K (J 7 (t + 1)) (J 8 t) (J 0 13) (J 0 14) 6 = some (I, J', 0) ∧ fJ K J' ∧ (∀ i, i < 7 → J' 7 i = J 8 i) ∧ (∀ i, i < 7 → (J' 8 i).toInt * (c : Int) = (J 8 t).toInt * (J 7 i).toInt - (J 7 (t + 1)).toInt * qs (fun i => (J 8 i).toInt) i) ∧ (∀ g : Nat, (∀ i, i < 7 → g ∣ ((J 8 t).toInt * (J 7 i).toInt - (J 7 (t + 1)).toInt * qs (fun i => (J 8 i).toInt) i).natAbs) → g ∣ c) ∧ (c = 0 → ∀ i, i < 7 → (J' 8 i).toInt = 0) ∧ (c ≠ 0 → 0 < (J' 0 14).toInt ∧ (J' 0 13).toInt * ((J 0 13).toInt * c) = (J' 0 14).toInt * ((J 0 14).toInt * (J 8 t).toInt) ∧ (J' 0 13).toInt.natAbs ≤ (J 0 14).toInt.natAbs * (J 8 t).toInt.natAbs ∧ (J' 0 14).toInt.natAbs ≤ (J 0 13).toInt.natAbs * c) := by
  obtain ⟨b1, b2, b3, b4, b5, b6, b7⟩ := bnd_j hj
  obtain ⟨sU0, sD0, sUl, sDl, sDq, _, _⟩ := h.sc ⟨t, by omega, i64_ne.mp hq.2.1⟩
  have lq : ∀ i, i < 7 → lb (J 8 i) (bQ j) := fun i hi => h.bq i hi
  have lp : ∀ i, i < 7 → lb (J 7 i) (bP j) := fun i hi => h.bp i hi
  have bb : bQ j * bP j + bP j * bQ j = bR j := by unfold bR; rw [Nat.mul_comm (bQ j)]; omega
  have bR2 : bQ j * bP j < 2 ^ 63 := by omega
  have bR3 : bP j * bQ j < 2 ^ 63 := by omega
  have k7 : K 7 = J 7 := hK 7 (by decide)
  have k8 : K 8 = J 8 := hK 8 (by decide)
  obtain ⟨F, hF⟩ : ∃ F : Nat → Int64, F = wrh 0 (J 7) (rem1 (J 7) (J 8) (J 7 (t + 1)) (J 8 t)) := ⟨_, rfl⟩
  have Fi : ∀ i, i < 7 → (F i).toInt = (J 8 t).toInt * (J 7 i).toInt - (J 7 (t + 1)).toInt * qs (fun i => (J 8 i).toInt) i := by
    intro i hi
    rw [hF, wrh_0 hi]
    unfold rem1 qs
    have m1 := mul_i (lq t (by omega)) (lp i hi) bR2
    have l1 := lb_mul (lq t (by omega)) (lp i hi) bR2
    by_cases e : i = 0
    · rw [if_pos e, if_pos e, sub_i l1 (lb_0 (n := 0)) (by omega), m1, Int.mul_zero]; rfl
    · rw [if_neg e, if_neg e]
      have m2 := mul_i (lp (t + 1) ht) (lq (i - 1) (by omega)) bR3
      have l2 := lb_mul (lp (t + 1) ht) (lq (i - 1) (by omega)) bR3
      rw [sub_i l1 l2 (by omega), m1, m2]
  have bqs : ∀ i, i < 7 → (qs (fun i => (J 8 i).toInt) i).natAbs ≤ bQ j := by
    intro i hi
    unfold qs
    by_cases e0 : i = 0
    · rw [if_pos e0]; exact Nat.zero_le _
    · rw [if_neg e0]; exact h.bq _ (by omega)
  have Fb : ∀ i, i < 7 → lb (F i) (bR j) := by
    intro i hi
    unfold lb
    rw [Fi i hi, ← bb]
    exact abs_sub_le (h.bq t (by omega)) (h.bp i hi) (h.bp (t + 1) ht) (bqs i hi)
  have Fn : ∀ i, i < 7 → nm (F i) := fun i hi => lb_nm (Fb i hi) b5
  have glt : gcf 7 F < 2 ^ 63 := gcf_lt 7 Fn
  have gi : (lN (gcf 7 F)).toInt = (gcf 7 F : Int) := pk_lT glt
  have c0F : gcf 7 F = 0 → ∀ i, i < 7 → (F i).toInt = 0 := by
    intro e i hi
    have := (gcf_dvd 7).mp (Nat.dvd_refl (gcf 7 F)) i hi
    rw [e] at this
    have := Nat.eq_zero_of_zero_dvd this
    omega
  rw [mrem_s, k7, k8, ← hF]
  unfold Mo_dividesOnce_181b
  rw [if_pos (by decide), mv_11, Mo_content_s (by rfl) (by rw [va_up_at]; exact Fn), bn2_s, va_up_at, Mo_swaps_s, bn1_s]
  obtain ⟨M, hM⟩ : ∃ M : Nat → Int64, M = fun k => if lN (gcf 7 F) ≤ 1 then F k else F k / lN (gcf 7 F) := ⟨_, rfl⟩
  rw [← hM]
  have M0 : ∀ i, i < 7 → (M i).toInt * (gcf 7 F : Int) = (F i).toInt := fun i hi => by rw [hM]; exact cont_mul Fn hi
  have Mz : gcf 7 F = 0 → ∀ i, i < 7 → (M i).toInt = 0 := by
    intro e i hi
    rw [hM]
    show (if lN (gcf 7 F) ≤ 1 then F i else F i / lN (gcf 7 F)).toInt = 0
    rw [e, if_pos (by decide)]
    exact c0F e i hi
  obtain ⟨K6, hK6⟩ : ∃ K6 : HJ, K6 = va_up (va_up (va_up (va_up K 7 F) 7 (wrk 7 F M)) 7 (wrk 7 (va_up (va_up K 7 F) 7 (wrk 7 F M) 7) (va_up (va_up K 7 F) 7 (wrk 7 F M) 8))) 8 (wrk 7 (va_up (va_up K 7 F) 7 (wrk 7 F M) 8) (va_up (va_up K 7 F) 7 (wrk 7 F M) 7)) := ⟨_, rfl⟩
  rw [← hK6]
  have r7 : ∀ i, i < 7 → K6 7 i = J 8 i := by
    intro i hi
    rw [hK6, va_up_of (by decide), va_up_at, wrk_lt hi, va_up_of (by decide), va_up_of (by decide), k8]
  have r8 : ∀ i, i < 7 → K6 8 i = M i := by
    intro i hi
    rw [hK6, va_up_at, wrk_lt hi, va_up_at, wrk_lt hi]
  have rf : fJ K K6 := fun a a1 a2 a3 => by rw [hK6, va_up_of a3, va_up_of a2, va_up_of a2, va_up_of a2]
  have hdv : ∀ g : Nat, (∀ i, i < 7 → g ∣ ((J 8 t).toInt * (J 7 i).toInt - (J 7 (t + 1)).toInt * qs (fun i => (J 8 i).toInt) i).natAbs) → g ∣ gcf 7 F := fun g hg => (gcf_dvd 7).mpr (fun i hi => by rw [Fi i hi]; exact hg i hi)
  by_cases c0 : gcf 7 F = 0
  · rw [if_pos (le_i.mpr (by rw [gi, c0]; decide))]
    exact ⟨K6, 0, rfl, rf, r7, fun i hi => by rw [r8 i hi, ← Fi i hi, c0F c0 i hi, Mz c0 i hi, Int.zero_mul], fun g hg => by have := hdv g hg; rw [c0] at this; exact this, fun _ i hi => by rw [r8 i hi]; exact Mz c0 i hi, fun q => absurd rfl q⟩
  · rw [if_neg (fun q => by have := le_i.mp q; rw [gi, show (0 : Int64).toInt = 0 from rfl] at this; omega)]
    have cb : gcf 7 F ≤ bR j := by
      have : ∃ i, i < 7 ∧ (F i).toInt ≠ 0 := by
        apply Classical.byContradiction
        intro q
        have : (0 : Nat) ∣ gcf 7 F := (gcf_dvd 7).mpr (fun i hi => by
          by_cases e : (F i).toInt = 0
          · rw [e]; exact Nat.dvd_refl 0
          · exact absurd ⟨i, hi, e⟩ q)
        exact c0 (Nat.eq_zero_of_zero_dvd this)
      obtain ⟨i, hi, hne⟩ := this
      exact Nat.le_trans (Nat.le_of_dvd (by omega) ((gcf_dvd 7).mp (Nat.dvd_refl _) i hi)) (Fb i hi)
    have n2 : sUb (j + 2) = sUb j * bR j := by cases j <;> rfl
    have cd : (J 0 13).toInt.natAbs * gcf 7 F ≤ sUb (j + 2) := by rw [n2]; exact Nat.mul_le_mul sUl cb
    obtain ⟨J', e1, e2, e3, e4, e5, e6, e7⟩ := Mo_scales_s (J := K6) (p1 := J 0 14) (p3 := J 0 13) (p5 := J 8 t) (p7 := lN (gcf 7 F)) (a := (J 0 14).toInt.natAbs) (b := (J 8 t).toInt.natAbs) (c := (J 0 13).toInt.natAbs) (d := gcf 7 F) (Nat.le_refl _) (Nat.le_refl _) (Nat.le_refl _) (by unfold lb; rw [gi]; exact Nat.le_refl _) (by have := sDl; omega) (by have := h.bq t (by omega); show (J 8 t).toInt.natAbs < _; have : (J 8 t).toInt.natAbs ≤ bQ j := this; omega) (by have := sUl; omega) glt (by have := sDq t (by omega); show (J 0 14).toInt.natAbs * (J 8 t).toInt.natAbs < _; have : (J 0 14).toInt.natAbs * (J 8 t).toInt.natAbs ≤ sUb (j + 1) := this; omega) (by omega) (i64_ne.mpr sU0) (i64_ne.mpr (by rw [gi]; omega))
    rw [e1, bn1_s]
    rw [gi] at e5
    exact ⟨J', gcf 7 F, rfl, fun a a1 a2 a3 => (e2 a a1).trans (rf a a1 a2 a3), fun i hi => by rw [e2 7 (by decide)]; exact r7 i hi, fun i hi => by rw [e2 8 (by decide), r8 i hi, ← Fi i hi]; exact M0 i hi, hdv, fun q => absurd q c0, fun _ => ⟨e4, e5, e6, e7⟩⟩
