theorem div_go {p x s t : Nat} {w : Nat → Bool} {I : HI} {J : HJ} {I2 : HI} {J2 : HJ} (hp : p < 2) (hxx : x < 2) (hr : ∀ i, i < 7 → J (ab w 39 + 1) (sg p i) = J2 7 i ∧ J (be w 39 + 1) (sg p i) = J2 8 i) (hb : ∀ i, i < 7 → lb (J2 7 i) 9 ∧ lb (J2 8 i) 9) (hpar : ∃ e, ∀ i, i < 7 → ((J2 7 i).toInt ≠ 0 → i % 2 = e) ∧ ((J2 8 i).toInt ≠ 0 → i % 2 ≠ e)) (hs : tp7 (J2 7) s) (ht : tp7 (J2 8) t) (hts : t < s) (hc : I 31 1 = 0) : ∃ (w' : Nat → Bool) (I' : HI) (J' : HJ) (I2' : HI) (J2' : HJ) (r : Int32), Un_divideOn_62 30 1 (nI (1 - p)) I J (nn w) (sp p) (nI x) = some (I', J', nn w', r) ∧ Mo_divides_88 N_m 0 (nI p) I2 J2 (nI x) = some (I2', J2', r) ∧ fV w w' I I' J J' I2 I2' J2 J2' ∧ (0 ≤ r → ∃ m, RL m (I' 31 1) (I2' 0 8) (fun k => I' (33 + k)) (I2' 6)) := by
  have s7' := hs.1
  have n7' : ∀ i, i < 7 → nm (J2 7 i) := fun i hi => lb_nm (hb i hi).1 (by decide)
  have n8' : ∀ i, i < 7 → nm (J2 8 i) := fun i hi => lb_nm (hb i hi).2 (by decide)
  have glt7 : gcf 7 (J2 7) < 2 ^ 63 := gcf_lt 7 n7'
  have glt8 : gcf 7 (J2 8) < 2 ^ 63 := gcf_lt 7 n8'
  have gi7 : (lN (gcf 7 (J2 7))).toInt = (gcf 7 (J2 7) : Int) := pk_lT glt7
  have gi8 : (lN (gcf 7 (J2 8))).toInt = (gcf 7 (J2 8) : Int) := pk_lT glt8
  have gd' : ∀ (f : Nat → Int64) (q : Nat), q < 7 → ¬ f q = 0 → lb (f q) 9 → gcf 7 f ≠ 0 ∧ gcf 7 f ≤ 9 := by
    intro f q hq hne hl
    have d := (gcf_dvd 7).mp (Nat.dvd_refl (gcf 7 f)) q hq
    have := i64_ne.mp hne
    refine ⟨fun e => ?_, Nat.le_trans (Nat.le_of_dvd (by omega) d) hl⟩
    rw [e] at d
    have := Nat.eq_zero_of_zero_dvd d
    omega
  obtain ⟨g70, g79⟩ := gd' (J2 7) s hs.1 hs.2.1 (hb s hs.1).1
  obtain ⟨g80, g89⟩ := gd' (J2 8) t ht.1 ht.2.1 (hb t ht.1).2
  obtain ⟨M, hM⟩ : ∃ M : Nat → Int64, M = fun k => if lN (gcf 7 (J2 7)) ≤ 1 then J2 7 k else J2 7 k / lN (gcf 7 (J2 7)) := ⟨_, rfl⟩
  obtain ⟨L, hL⟩ : ∃ L : Nat → Int64, L = fun k => if lN (gcf 7 (J2 8)) ≤ 1 then J2 8 k else J2 8 k / lN (gcf 7 (J2 8)) := ⟨_, rfl⟩
  have M0 : ∀ i, i < 7 → (M i).toInt * (gcf 7 (J2 7) : Int) = (J2 7 i).toInt := fun i hi => by rw [hM]; exact cont_mul n7' hi
  have L0 : ∀ i, i < 7 → (L i).toInt * (gcf 7 (J2 8) : Int) = (J2 8 i).toInt := fun i hi => by rw [hL]; exact cont_mul n8' hi
  obtain ⟨K, hK⟩ : ∃ K : HJ, K = va_up (va_up J2 7 (wrk 7 (J2 7) M)) 8 (wrk 7 (J2 8) L) := ⟨_, rfl⟩
  obtain ⟨J', e1, e2, e3, e4, e5, e6, e7⟩ := Mo_scales_s (J := K) (p1 := lN (gcf 7 (J2 7))) (p3 := lN (gcf 7 (J2 8))) (p5 := 1) (p7 := 1) (a := gcf 7 (J2 7)) (b := 1) (c := gcf 7 (J2 8)) (d := 1) (by unfold lb; rw [gi7]; exact Nat.le_refl _) (by unfold lb; decide) (by unfold lb; rw [gi8]; exact Nat.le_refl _) (by unfold lb; decide) glt7 (by decide) glt8 (by decide) (by omega) (by omega) (i64_ne.mpr (by rw [gi8]; omega)) (by decide)
  rw [gi7, gi8, show (1 : Int64).toInt = 1 from rfl, Int.mul_one, Int.mul_one] at e5
  have r7 : ∀ i, i < 7 → J' 7 i = M i := fun i hi => by rw [e2 7 (by decide), hK, va_up_of (by decide), va_up_at, wrk_lt hi]
  have r8 : ∀ i, i < 7 → J' 8 i = L i := fun i hi => by rw [e2 8 (by decide), hK, va_up_at, wrk_lt hi]
  have Mle : ∀ i, i < 7 → (M i).toInt.natAbs ≤ 9 := fun i hi => by
    have := abs_mul_ge (x := (M i).toInt) (g := (gcf 7 (J2 7) : Int)) (by omega)
    rw [M0 i hi] at this
    exact Nat.le_trans this (hb i hi).1
  have Lle : ∀ i, i < 7 → (L i).toInt.natAbs ≤ 9 := fun i hi => by
    have := abs_mul_ge (x := (L i).toInt) (g := (gcf 7 (J2 8) : Int)) (by omega)
    rw [L0 i hi] at this
    exact Nat.le_trans this (hb i hi).2
  have Mz : ∀ i, i < 7 → ((J2 7 i).toInt = 0 ↔ (M i).toInt = 0) := fun i hi => by
    rw [← M0 i hi]
    exact ⟨fun q => (Int.mul_eq_zero.mp q).resolve_right (by omega), fun q => by rw [q, Int.zero_mul]⟩
  have Lz : ∀ i, i < 7 → ((J2 8 i).toInt = 0 ↔ (L i).toInt = 0) := fun i hi => by
    rw [← L0 i hi]
    exact ⟨fun q => (Int.mul_eq_zero.mp q).resolve_right (by omega), fun q => by rw [q, Int.zero_mul]⟩
  unfold lb at e6 e7
  rw [Nat.mul_one] at e6 e7
  have iv : Ivm p 0 w J J' := by
    refine Iv.mk (fun i hi => ?_) (fun i hi => ?_) (fun i hi => ?_) (fun i hi => ?_) (fun i hi h6 => ?_) ?_ ⟨s, hs.1, ?_⟩ (fun i hi => ?_) (fun i hi => ?_) (fun _ => ⟨?_, e4, Nat.le_trans e6 g79, Nat.le_trans e7 (Nat.le_trans g89 (by decide)), fun i hi => ?_, fun i k hi hk => ?_, fun g hg => ?_⟩)
    · show (J (ab w 39 + 1) (sg p i)).toInt.natAbs ≤ _
      rw [(hr i hi).1]; exact (hb i hi).1
    · show (J (be w 39 + 1) (sg p i)).toInt.natAbs ≤ _
      rw [(hr i hi).2]; exact (hb i hi).2
    · rw [r7 i hi]; exact Mle i hi
    · rw [r8 i hi]; exact Lle i hi
    · rw [r8 i hi]
      exact (Lz i hi).mp (i64_e0.mp (ht.2.2 i (by omega) hi))
    · obtain ⟨e, he⟩ := hpar
      refine ⟨e, fun i hi => ⟨fun q => (he i hi).1 (fun z => q ?_), fun q => (he i hi).2 (fun z => q ?_)⟩⟩
      · rw [r7 i hi]; exact (Mz i hi).mp z
      · rw [r8 i hi]; exact (Lz i hi).mp z
    · rw [r7 s hs.1]
      exact fun q => i64_ne.mp hs.2.1 ((Mz s hs.1).mpr q)
    · show (J (ab w 39 + 1) (sg p i)).toInt = 0 ↔ _
      rw [(hr i hi).1, r7 i hi]; exact Mz i hi
    · show (J (be w 39 + 1) (sg p i)).toInt = 0 ↔ _
      rw [(hr i hi).2, r8 i hi]; exact Lz i hi
    · intro q
      rw [q, Int.zero_mul] at e5
      exact absurd e5.symm (Int.mul_ne_zero (by omega) (by omega))
    · show (J' 0 14).toInt.natAbs * (J' 8 i).toInt.natAbs ≤ 81
      rw [r8 i hi]
      exact Nat.mul_le_mul (Nat.le_trans e7 g89) (Lle i hi)
    · show (J (ab w 39 + 1) (sg p i)).toInt * ((J' 0 14).toInt * (J' 8 k).toInt) = (J (be w 39 + 1) (sg p k)).toInt * ((J' 0 13).toInt * (J' 7 i).toInt)
      rw [(hr i hi).1, (hr k hk).2, r7 i hi, r8 k hk, ← M0 i hi, ← L0 k hk]
      generalize (M i).toInt = a1
      generalize (L k).toInt = a2
      have : a1 * (gcf 7 (J2 7) : Int) * ((J' 0 14).toInt * a2) = a1 * a2 * ((J' 0 14).toInt * (gcf 7 (J2 7) : Int)) := by grind
      rw [this, ← e5]
      grind
    · have : g * gcf 7 (J2 8) ∣ gcf 7 (J2 8) := (gcf_dvd 7).mpr (fun i hi => by
        rw [← L0 i hi, Int.natAbs_mul, Int.natAbs_natCast, ← r8 i hi]
        exact Nat.mul_dvd_mul (hg i hi) (Nat.dvd_refl _))
      have le := Nat.le_of_dvd (by omega) this
      have g0 : g ≠ 0 := by
        rintro rfl
        rw [Nat.zero_mul] at this
        exact g80 (Nat.eq_zero_of_zero_dvd this)
      have : g * gcf 7 (J2 8) ≤ 1 * gcf 7 (J2 8) := by omega
      have := Nat.le_of_mul_le_mul_right this (by omega)
      omega
  obtain ⟨w3, I3, J3, I4, J4, r, r1, r2, r3, r4⟩ := div_loop hp 6 0 x 256 256 w I J (up2 I2 0 8 0) J' (by decide) (by decide) (by decide) hxx iv ⟨by decide, hc, by rw [up2_at, va_up_at]; rfl, fun k hk => by omega, fun k hk => by omega, Nat.zero_le _⟩ rfl
  refine ⟨w3, I3, J3, I4, J4, r, r1, ?_, fV_tr ⟨fun _ _ => rfl, fun _ _ => rfl, fun _ _ _ _ => rfl, fun a h1 h2 => up2_of h1, fun k hk => by rw [up2_at, va_up_of hk], fun a a1 a2 a3 => by rw [e2 a a1, hK, va_up_of a3, va_up_of a2]⟩ r3, r4⟩
  unfold Mo_divides_88
  rw [mv_11, Mo_content_s rfl n7', bn2_s, ← hM, mv_12, Mo_content_s rfl (by rw [va_up_of (by decide)]; exact n8'), bn2_s, va_up_of (show (8 : Nat) ≠ 7 by decide), ← hL, ← hK, e1, bn1_s, bd_e]
  exact r2
theorem law_par {z y : Nat → Bool} (h : lawf z y = true) : ∃ e, (∀ i, i < 7 → (z i = false → i % 2 = e) ∧ (y i = false → i % 2 ≠ e)) ∧ (∃ i, i < 7 ∧ z i = false) ∧ ∃ i, i < 7 ∧ y i = false := by
  unfold lawf pev pod at h
  have ex : ∀ z : Nat → Bool, (∃ i, i < 7 ∧ z i = false) ↔ ¬ (z 0 = true ∧ z 1 = true ∧ z 2 = true ∧ z 3 = true ∧ z 4 = true ∧ z 5 = true ∧ z 6 = true) := by
    intro z
    constructor
    · rintro ⟨i, hi, e⟩ ⟨h0, h1, h2, h3, h4, h5, h6⟩
      rcases (show i = 0 ∨ i = 1 ∨ i = 2 ∨ i = 3 ∨ i = 4 ∨ i = 5 ∨ i = 6 by omega) with rfl | rfl | rfl | rfl | rfl | rfl | rfl <;> simp_all
    · intro q
      apply Classical.byContradiction
      intro n
      have : ∀ i, i < 7 → z i = true := fun i hi => by
        cases e : z i with
        | true => rfl
        | false => exact absurd ⟨i, hi, e⟩ n
      exact q ⟨this 0 (by decide), this 1 (by decide), this 2 (by decide), this 3 (by decide), this 4 (by decide), this 5 (by decide), this 6 (by decide)⟩
  have al : ∀ (z : Nat → Bool) (e : Nat), ((e = 0 ∧ z 1 = true ∧ z 3 = true ∧ z 5 = true) ∨ (e = 1 ∧ z 0 = true ∧ z 2 = true ∧ z 4 = true ∧ z 6 = true)) → ∀ i, i < 7 → z i = false → i % 2 = e := by
    intro z e he i hi hz
    rcases he with ⟨rfl, h1, h3, h5⟩ | ⟨rfl, h0, h2, h4, h6⟩ <;> rcases (show i = 0 ∨ i = 1 ∨ i = 2 ∨ i = 3 ∨ i = 4 ∨ i = 5 ∨ i = 6 by omega) with rfl | rfl | rfl | rfl | rfl | rfl | rfl <;> simp_all
  simp only [Bool.or_eq_true, Bool.and_eq_true, Bool.not_eq_true', Bool.and_eq_false_iff] at h
  rcases h with h | h
  · refine ⟨0, fun i hi => ⟨al z 0 (Or.inl ⟨rfl, h.1.1.1.1, h.1.1.1.2, h.1.1.2⟩) i hi, fun q => ?_⟩, (ex z).mpr (fun a => by simp_all), (ex y).mpr (fun a => by simp_all)⟩
    have := al y 1 (Or.inr ⟨rfl, h.2.1.1.1.1, h.2.1.1.1.2, h.2.1.1.2, h.2.1.2⟩) i hi q
    omega
  · refine ⟨1, fun i hi => ⟨al z 1 (Or.inr ⟨rfl, h.1.1.1.1.1, h.1.1.1.1.2, h.1.1.1.2, h.1.1.2⟩) i hi, fun q => ?_⟩, (ex z).mpr (fun a => by simp_all), (ex y).mpr (fun a => by simp_all)⟩
    have := al y 0 (Or.inl ⟨rfl, h.2.1.1.1, h.2.1.1.2, h.2.1.2⟩) i hi q
    omega
theorem bn4_id {A B C D : Type} {x : Option (A × B × C × D)} : bn4 x (fun a b c d => some (a, b, c, d)) = x := by
  cases x with
  | none => rfl
  | some a => obtain ⟨a, b, c, d⟩ := a; rfl
theorem way_01 {p : Nat} (hp : p < 2) : wayS p := by
  intro w I J I2 J2 hW hC hl
  have q1 := ab_be (w := w) (p := 1)
  have q39 := ab_be (w := w) (p := 39)
  have pA := isPa_ab pa_39 w
  have pB := isPa_be pa_39 w
  obtain ⟨J5, hJ5⟩ : ∃ J5 : HJ, J5 = va_up (va_up J (ab w 39 + 1) (wrk 7 (J (ab w 39 + 1)) (J (ab w 1 + 1)))) (be w 39 + 1) (wrk 7 (J (be w 39 + 1)) (J (be w 1 + 1))) := ⟨_, rfl⟩
  have cls : (if 2 ≤ p then Un_divideByPoles 30 1 (nI (p - 2)) I J (nn w) else Un_divideOn 30 1 (nI (1 - p)) I J (nn w)) = Un_divideOn_14 30 1 (nI (1 - p)) (up2 I 31 1 0) J5 (nn w) (sp p) := by
    rw [if_neg (by omega)]
    unfold Un_divideOn Un_divideOn_0 Un_begin Un_begin_0 La_clear La_clear_0
    rw [nv_30_0, bd_e, bn1_s, nv_30_1, Pa_load_d pa_39 pa_1 (Or.inl (by decide)), bn1_s, bn2_s, ← hJ5]
    rcases (show p = 0 ∨ p = 1 by omega) with rfl | rfl
    · rw [if_neg (by decide)]; rfl
    · rw [if_pos (by decide)]; rfl
  rw [cls, if_neg (by omega), mdiv_2 hp]
  obtain ⟨K, hK⟩ : ∃ K : HJ, K = va_up (va_up J2 7 (wrk 7 (J2 7) (fun k => wA (I2 4) (sg p k)))) 8 (wrk 7 (J2 8) (fun k => wB (I2 4) (sg p k))) := ⟨_, rfl⟩
  rw [← hK]
  have k7 : ∀ i, i < 7 → K 7 i = wA (I2 4) (sg p i) := fun i hi => by rw [hK, va_up_of (by decide), va_up_at, wrk_lt hi]
  have k8 : ∀ i, i < 7 → K 8 i = wB (I2 4) (sg p i) := fun i hi => by rw [hK, va_up_at, wrk_lt hi]
  have rA : ∀ i, i < 7 → J5 (ab w 39 + 1) (sg p i) = K 7 i := fun i hi => by
    rw [hJ5, va_up_of (by omega), va_up_at, wrk_lt (sg_lt hi), k7 i hi]
    exact hW.1 _ (sg_lt hi)
  have rB : ∀ i, i < 7 → J5 (be w 39 + 1) (sg p i) = K 8 i := fun i hi => by
    rw [hJ5, va_up_at, wrk_lt (sg_lt hi), k8 i hi]
    exact hW.2.1 _ (sg_lt hi)
  have jf : ∀ r, r ≠ 41 → r ≠ 43 → J5 r = J r := fun r r1 r2 => by rw [hJ5, va_up_of (by omega), va_up_of (by omega)]
  have l7 : ∀ i, i < 7 → lb (K 7 i) 9 := fun i hi => by
    rw [k7 i hi]
    exact lb_32 (by have := hW.2.2 (sg p i) (by have := sg_lt (p := p) hi; omega); omega)
  have l8 : ∀ i, i < 7 → lb (K 8 i) 9 := fun i hi => by
    rw [k8 i hi]
    exact lb_32 (by have := hW.2.2 (7 + sg p i) (by have := sg_lt (p := p) hi; omega); omega)
  obtain ⟨e, hpar, ⟨ia, hia, za⟩, ib, hib, zb⟩ := law_par hl
  have sg2 : ∀ i, i < 7 → sg p i % 2 = i % 2 := fun i hi => by unfold sg; by_cases e : p = 0 <;> simp only [e, if_true, if_false] <;> omega
  have z7' : ∀ i, i < 7 → ((K 7 i).toInt ≠ 0 → i % 2 = e) := fun i hi q => by
    rw [← sg2 i hi]
    apply (hpar (sg p i) (sg_lt hi)).1
    cases h : zi (I2 4) 0 (sg p i) with
    | false => rfl
    | true =>
      have := of_decide_eq_true h
      rw [show 7 * 0 + sg p i = sg p i by omega] at this
      exact absurd (i64_e0.mp (by rw [k7 i hi]; exact i64_0.mpr this)) q
  have z8' : ∀ i, i < 7 → ((K 8 i).toInt ≠ 0 → i % 2 ≠ e) := fun i hi q => by
    rw [← sg2 i hi]
    apply (hpar (sg p i) (sg_lt hi)).2
    cases h : zi (I2 4) 1 (sg p i) with
    | false => rfl
    | true =>
      have := of_decide_eq_true h
      rw [show 7 * 1 + sg p i = 7 + sg p i by omega] at this
      exact absurd (i64_e0.mp (by rw [k8 i hi]; exact i64_0.mpr this)) q
  obtain ⟨s, hs⟩ := top_ex (f := K 7) 7 (by decide) (fun i a b => by omega) ⟨sg p ia, sg_lt hia, fun q => by
    rw [k7 _ (sg_lt hia), sg_sg hia] at q
    have := of_decide_eq_false za
    rw [show 7 * 0 + ia = ia by omega] at this
    exact this (i64_0.mp q)⟩
  obtain ⟨t, ht⟩ := top_ex (f := K 8) 7 (by decide) (fun i a b => by omega) ⟨sg p ib, sg_lt hib, fun q => by
    rw [k8 _ (sg_lt hib), sg_sg hib] at q
    have := of_decide_eq_false zb
    rw [show 7 * 1 + ib = 7 + ib by omega] at this
    exact this (i64_0.mp q)⟩
  have s7' := hs.1
  have t7' := ht.1
  have tc : ∀ (a b r : Nat), (∀ i, i < 7 → J5 (a + 1) (sg p i) = K b i) → tp7 (K b) r → tp7 (fun i => J5 (a + 1) (sg p i)) r := fun a b r h hr => ⟨hr.1, by show ¬ J5 (a + 1) (sg p r) = 0; rw [h r hr.1]; exact hr.2.1, fun i a1 a2 => by show J5 (a + 1) (sg p i) = 0; rw [h i a2]; exact hr.2.2 i a1 a2⟩
  have st : s ≠ t := by
    rintro rfl
    exact z8' s ht.1 (i64_ne.mp ht.2.1) (z7' s hs.1 (i64_ne.mp hs.2.1))
  have swp : Un_divideOn_14 30 1 (nI (1 - p)) (up2 I 31 1 0) J5 (nn w) (sp p) = if t < s then Un_divideOn_62 30 1 (nI (1 - p)) (up2 I 31 1 0) J5 (nn w) (sp p) (nI 0) else Un_divideOn_62 30 1 (nI (1 - p)) (up2 I 31 1 0) J5 (nn (va_up w 39 (!(w 39)))) (sp p) (nI 1) := by
    unfold Un_divideOn_14 Un_divideOn_48
    rw [nv_30_1, pa_0 pa_39, cend hp pA (tc _ 7 s rA hs), bn1_s, nv_30_1, pa_1' pa_39, cend hp pB (tc _ 8 t rB ht), bn1_s]
    have cmp : nI (sg p s) ≤ nI (sg p t) ↔ (if p = 0 then s < t else t < s) := by
      rw [nI_leI (by have := sg_lt (p := p) hs.1; omega) (by have := sg_lt (p := p) ht.1; omega)]
      unfold sg
      by_cases e : p = 0 <;> simp only [e, if_true, if_false] <;> omega
    rcases (show p = 0 ∨ p = 1 by omega) with rfl | rfl
    · rw [if_pos rfl] at cmp
      by_cases c : t < s
      · rw [if_neg (fun q => by have := cmp.mp q; omega), if_pos c, if_pos (by decide)]; rfl
      · rw [if_pos (cmp.mpr (by omega)), if_neg c, if_neg (by decide), nv_30_1, Pa_swap_s pa_39, bn1_s]; rfl
    · rw [if_neg (by decide)] at cmp
      by_cases c : t < s
      · rw [if_pos (cmp.mpr c), if_pos c, if_pos (by decide)]; rfl
      · rw [if_neg (fun q => c (cmp.mp q)), if_neg c, if_neg (by decide), nv_30_1, Pa_swap_s pa_39, bn1_s]; rfl
  have mo : Mo_divides_2b N_m 0 (nI p) (fun _ _ _ => none) I2 K (nI 7) = if t < s then Mo_divides_88 N_m 0 (nI p) I2 K (nI 0) else Mo_divides_88 N_m 0 (nI p) I2 (va_up (va_up K 7 (wrk 7 (K 7) (K 8))) 8 (wrk 7 (K 8) (K 7))) (nI 1) := by
    unfold Mo_divides_2b Mo_divides_78
    rw [if_pos (by decide), mv_11, Mo_top_s rfl, bn1_s, mv_12, Mo_top_s rfl, bn1_s, dgb_tp hs, dgb_tp ht]
    by_cases c : t < s
    · rw [if_neg (fun q => by rw [nI_leI (by omega) (by omega)] at q; omega), if_pos c, if_neg (by decide)]; rfl
    · rw [if_pos ((nI_leI (by omega) (by omega)).mpr (by omega)), if_neg c, if_pos rfl, Mo_swaps_s, bn1_s]; rfl
  rw [swp, mo]
  have i31 : (up2 I 31 1 0) 31 1 = 0 := by rw [up2_at, va_up_at]
  have fin : ∀ (w1 : Nat → Bool) (K1 : HJ), (∀ a, a ≠ 39 → w1 a = w a) → fJ J2 K1 → ∀ (X : Option (HI × HJ × HN × Int32)) (Y : Option (HI × HJ × Int32)), (∃ (w' : Nat → Bool) (I' : HI) (J' : HJ) (I2' : HI) (J2' : HJ) (r : Int32), X = some (I', J', nn w', r) ∧ Y = some (I2', J2', r) ∧ fV w1 w' (up2 I 31 1 0) I' J5 J' I2 I2' K1 J2' ∧ (0 ≤ r → ∃ m, RL m (I' 31 1) (I2' 0 8) (fun k => I' (33 + k)) (I2' 6))) → ∃ (w' : Nat → Bool) (I' : HI) (J' : HJ) (I2' : HI) (J2' : HJ) (r : Int32), X = some (I', J', nn w', r) ∧ Y = some (I2', J2', r) ∧ fU w w' I I' J J' I2 I2' J2 J2' ∧ (0 ≤ r → ∃ m, RL m (I' 31 1) (I2' 0 8) (fun k => I' (33 + k)) (I2' 6)) := by
    rintro w1 K1 hw hKf X Y ⟨w', I', J', I2', J2', r, a1, a2, ⟨f1, f2, f3, f4, f5, f6⟩, a4⟩
    refine ⟨w', I', J', I2', J2', r, a1, a2, ⟨⟨(f1 1 (by decide)).trans (hw 1 (by decide)), (f1 15 (by decide)).trans (hw 15 (by decide))⟩, fun a h => by rw [f2 a (by omega), up2_of (by omega)], fun a h => by rw [f3 a (by omega) (by omega) (by omega), jf a (by omega) (by omega)], fun a h1 h2 _ _ => f4 a h1 h2, fun k h1 _ => f5 k h1, fun a h0 h => (f6 a h0 (by omega) (by omega)).trans (hKf a h0 (by omega) (by omega)), ?_⟩, a4⟩
    rw [f4 13 (by decide) (by decide), f4 14 (by decide) (by decide), f5 21 (by decide)]
    exact hC
  have hKf : fJ J2 K := fun a a0 a7 a8 => by rw [hK, va_up_of a8, va_up_of a7]
  by_cases c : t < s
  · rw [if_pos c, if_pos c]
    exact fin w K (fun _ _ => rfl) hKf _ _ (div_go hp (by decide) (fun i hi => ⟨rA i hi, rB i hi⟩) (fun i hi => ⟨l7 i hi, l8 i hi⟩) ⟨e, fun i hi => ⟨z7' i hi, z8' i hi⟩⟩ hs ht c i31)
  · rw [if_neg c, if_neg c]
    obtain ⟨K1, hK1⟩ : ∃ K1 : HJ, K1 = va_up (va_up K 7 (wrk 7 (K 7) (K 8))) 8 (wrk 7 (K 8) (K 7)) := ⟨_, rfl⟩
    rw [← hK1]
    have m7 : ∀ i, i < 7 → K1 7 i = K 8 i := fun i hi => by rw [hK1, va_up_of (by decide), va_up_at, wrk_lt hi]
    have m8 : ∀ i, i < 7 → K1 8 i = K 7 i := fun i hi => by rw [hK1, va_up_at, wrk_lt hi]
    have tpc : ∀ (f g : Nat → Int64) (r : Nat), (∀ i, i < 7 → f i = g i) → tp7 g r → tp7 f r := fun f g r h hr => ⟨hr.1, by rw [h r hr.1]; exact hr.2.1, fun i a1 a2 => by rw [h i a2]; exact hr.2.2 i a1 a2⟩
    refine fin (va_up w 39 (!(w 39))) K1 (fun a h => va_up_of h) (fJ_tr hKf (fun a a0 a7 a8 => by rw [hK1, va_up_of a8, va_up_of a7])) _ _ (div_go (s := t) (t := s) hp (by decide) (fun i hi => ?_) (fun i hi => ?_) ⟨1 - e, fun i hi => ?_⟩ (tpc _ _ t m7 ht) (tpc _ _ s m8 hs) (by omega) i31)
    · rw [ab_swap, be_swap, m7 i hi, m8 i hi]; exact ⟨rB i hi, rA i hi⟩
    · rw [m7 i hi, m8 i hi]; exact ⟨l8 i hi, l7 i hi⟩
    · rw [m7 i hi, m8 i hi]
      have he : e < 2 := by
        have := z7' s hs.1 (i64_ne.mp hs.2.1); omega
      exact ⟨fun q => by have := z8' i hi q; omega, fun q => by have := z7' i hi q; omega⟩
theorem way_0 : wayS 0 := way_01 (by decide)
theorem way_1 : wayS 1 := way_01 (by decide)
