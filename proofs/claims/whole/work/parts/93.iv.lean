/-- ways 0 and 1 over Int: bounds of the reference's numbers and of its scale at step j -/
def bQ : Nat → Nat
  | 0 => 9
  | 1 => 162
  | 2 => 2916
  | 3 => 944784
  | _ => 1
def bP : Nat → Nat
  | 0 => 9
  | j + 1 => bQ j
def bR (j : Nat) : Nat := 2 * (bP j * bQ j)
def sUb : Nat → Nat
  | 0 => 9
  | 1 => 81
  | j + 2 => sUb j * bR j
def qs (f : Nat → Int) (i : Nat) : Int := if i = 0 then 0 else f (i - 1)
def Iv (j : Nat) (P Q p q : Nat → Int) (sU sD : Int) : Prop := (∀ i, i < 7 → (P i).natAbs ≤ 9 * 198 ^ j) ∧ (∀ i, i < 7 → (Q i).natAbs ≤ 9 * 198 ^ j) ∧ (∀ i, i < 7 → (p i).natAbs ≤ bP j) ∧ (∀ i, i < 7 → (q i).natAbs ≤ bQ j) ∧ (∀ i, i < 7 → 6 ≤ i + j → q i = 0) ∧ (∃ e, ∀ i, i < 7 → (p i ≠ 0 → i % 2 = e) ∧ (q i ≠ 0 → i % 2 ≠ e)) ∧ (∃ i, i < 7 ∧ p i ≠ 0) ∧ (∀ i, i < 7 → (P i = 0 ↔ p i = 0)) ∧ (∀ i, i < 7 → (Q i = 0 ↔ q i = 0)) ∧ ((∃ i, i < 7 ∧ q i ≠ 0) → sU ≠ 0 ∧ 0 < sD ∧ sU.natAbs ≤ sUb j ∧ sD.natAbs ≤ sUb (j + 1) ∧ (∀ i, i < 7 → sD.natAbs * (q i).natAbs ≤ sUb (j + 1)) ∧ (∀ i k, i < 7 → k < 7 → P i * (sD * q k) = Q k * (sU * p i)) ∧ ∀ g : Nat, (∀ i, i < 7 → g ∣ (q i).natAbs) → g = 1)
theorem Iv.cP {j : Nat} {P Q p q : Nat → Int} {sU sD : Int} (h : Iv j P Q p q sU sD) : ∀ i, i < 7 → (P i).natAbs ≤ 9 * 198 ^ j := h.1
theorem Iv.cQ {j : Nat} {P Q p q : Nat → Int} {sU sD : Int} (h : Iv j P Q p q sU sD) : ∀ i, i < 7 → (Q i).natAbs ≤ 9 * 198 ^ j := h.2.1
theorem Iv.bp {j : Nat} {P Q p q : Nat → Int} {sU sD : Int} (h : Iv j P Q p q sU sD) : ∀ i, i < 7 → (p i).natAbs ≤ bP j := h.2.2.1
theorem Iv.bq {j : Nat} {P Q p q : Nat → Int} {sU sD : Int} (h : Iv j P Q p q sU sD) : ∀ i, i < 7 → (q i).natAbs ≤ bQ j := h.2.2.2.1
theorem Iv.zq {j : Nat} {P Q p q : Nat → Int} {sU sD : Int} (h : Iv j P Q p q sU sD) : ∀ i, i < 7 → 6 ≤ i + j → q i = 0 := h.2.2.2.2.1
theorem Iv.par {j : Nat} {P Q p q : Nat → Int} {sU sD : Int} (h : Iv j P Q p q sU sD) : ∃ e, ∀ i, i < 7 → (p i ≠ 0 → i % 2 = e) ∧ (q i ≠ 0 → i % 2 ≠ e) := h.2.2.2.2.2.1
theorem Iv.np {j : Nat} {P Q p q : Nat → Int} {sU sD : Int} (h : Iv j P Q p q sU sD) : ∃ i, i < 7 ∧ p i ≠ 0 := h.2.2.2.2.2.2.1
theorem Iv.zP {j : Nat} {P Q p q : Nat → Int} {sU sD : Int} (h : Iv j P Q p q sU sD) : ∀ i, i < 7 → (P i = 0 ↔ p i = 0) := h.2.2.2.2.2.2.2.1
theorem Iv.zQ {j : Nat} {P Q p q : Nat → Int} {sU sD : Int} (h : Iv j P Q p q sU sD) : ∀ i, i < 7 → (Q i = 0 ↔ q i = 0) := h.2.2.2.2.2.2.2.2.1
theorem Iv.sc {j : Nat} {P Q p q : Nat → Int} {sU sD : Int} (h : Iv j P Q p q sU sD) : (∃ i, i < 7 ∧ q i ≠ 0) → sU ≠ 0 ∧ 0 < sD ∧ sU.natAbs ≤ sUb j ∧ sD.natAbs ≤ sUb (j + 1) ∧ (∀ i, i < 7 → sD.natAbs * (q i).natAbs ≤ sUb (j + 1)) ∧ (∀ i k, i < 7 → k < 7 → P i * (sD * q k) = Q k * (sU * p i)) ∧ ∀ g : Nat, (∀ i, i < 7 → g ∣ (q i).natAbs) → g = 1 := h.2.2.2.2.2.2.2.2.2
theorem Iv.mk {j : Nat} {P Q p q : Nat → Int} {sU sD : Int} (cP : ∀ i, i < 7 → (P i).natAbs ≤ 9 * 198 ^ j) (cQ : ∀ i, i < 7 → (Q i).natAbs ≤ 9 * 198 ^ j) (bp : ∀ i, i < 7 → (p i).natAbs ≤ bP j) (bq : ∀ i, i < 7 → (q i).natAbs ≤ bQ j) (zq : ∀ i, i < 7 → 6 ≤ i + j → q i = 0) (par : ∃ e, ∀ i, i < 7 → (p i ≠ 0 → i % 2 = e) ∧ (q i ≠ 0 → i % 2 ≠ e)) (np : ∃ i, i < 7 ∧ p i ≠ 0) (zP : ∀ i, i < 7 → (P i = 0 ↔ p i = 0)) (zQ : ∀ i, i < 7 → (Q i = 0 ↔ q i = 0)) (sc : (∃ i, i < 7 ∧ q i ≠ 0) → sU ≠ 0 ∧ 0 < sD ∧ sU.natAbs ≤ sUb j ∧ sD.natAbs ≤ sUb (j + 1) ∧ (∀ i, i < 7 → sD.natAbs * (q i).natAbs ≤ sUb (j + 1)) ∧ (∀ i k, i < 7 → k < 7 → P i * (sD * q k) = Q k * (sU * p i)) ∧ ∀ g : Nat, (∀ i, i < 7 → g ∣ (q i).natAbs) → g = 1) : Iv j P Q p q sU sD := ⟨cP, cQ, bp, bq, zq, par, np, zP, zQ, sc⟩
theorem abs_mul_ge {x g : Int} (h : g ≠ 0) : x.natAbs ≤ (x * g).natAbs := by
  rw [Int.natAbs_mul]
  exact Nat.le_mul_of_pos_right _ (by omega)
theorem abs_sub_le {a b x y : Nat} {u v p q : Int} (hu : u.natAbs ≤ a) (hp : p.natAbs ≤ x) (hv : v.natAbs ≤ b) (hq : q.natAbs ≤ y) : (u * p - v * q).natAbs ≤ a * x + b * y := by
  have h1 : (u * p).natAbs ≤ a * x := by rw [Int.natAbs_mul]; exact Nat.mul_le_mul hu hp
  have h2 : (v * q).natAbs ≤ b * y := by rw [Int.natAbs_mul]; exact Nat.mul_le_mul hv hq
  have := Int.natAbs_sub_le (u * p) (v * q)
  omega
theorem Iv_step {j t c : Nat} {P Q p q A B r q' : Nat → Int} {sU sD sU' sD' u d G : Int} (h : Iv j P Q p q sU sD) (ht : t + 1 < 7) (qt : q t ≠ 0) (qz : ∀ i, t < i → i < 7 → q i = 0) (pt : p (t + 1) ≠ 0) (pz : ∀ i, t + 1 < i → i < 7 → p i = 0) (hu : 0 < u ∧ u ≤ 99) (hd : 0 < d ∧ d ≤ 99) (hud : u * (sD * q t) = d * (sU * p (t + 1))) (hG : G ≠ 0) (hA : ∀ i, i < 7 → A i * G = d * Q i) (hB : ∀ i, i < 7 → B i * G = d * P i - u * qs Q i) (hr : ∀ i, i < 7 → r i = q t * p i - p (t + 1) * qs q i) (hq : ∀ i, i < 7 → q' i * c = r i) (hc : ∀ g : Nat, (∀ i, i < 7 → g ∣ (r i).natAbs) → g ∣ c) (hz : c = 0 → ∀ i, i < 7 → q' i = 0) (hs : c ≠ 0 → 0 < sD' ∧ sU' * (sU * c) = sD' * (sD * q t) ∧ sU'.natAbs ≤ sD.natAbs * (q t).natAbs ∧ sD'.natAbs ≤ sU.natAbs * c) : Iv (j + 1) A B q q' sU' sD' := by
  obtain ⟨sU0, sD0, sUb', sDb, sDq, inv, prim⟩ := h.sc ⟨t, by omega, qt⟩
  obtain ⟨e, par⟩ := h.par
  have tj : t + j < 6 := by
    by_cases q : t + j < 6
    · exact q
    · exact absurd (h.zq t (by omega) (by omega)) qt
  have te : t % 2 ≠ e := (par t (by omega)).2 qt
  have te1 : (t + 1) % 2 = e := (par (t + 1) (by omega)).1 pt
  have Qt : Q t ≠ 0 := fun x => qt ((h.zQ t (by omega)).mp x)
  have bqs : ∀ i, i < 7 → (qs q i).natAbs ≤ bQ j := by
    intro i hi
    unfold qs
    by_cases e0 : i = 0
    · rw [if_pos e0]; exact Nat.zero_le _
    · rw [if_neg e0]; exact h.bq _ (by omega)
  have bQs : ∀ i, i < 7 → (qs Q i).natAbs ≤ 9 * 198 ^ j := by
    intro i hi
    unfold qs
    by_cases e0 : i = 0
    · rw [if_pos e0]; exact Nat.zero_le _
    · rw [if_neg e0]; exact h.cQ _ (by omega)
  have sUp : sU * p (t + 1) ≠ 0 := Int.mul_ne_zero sU0 pt
  have prs : ∀ i k, i < 7 → k < 7 → Q i * qs q k = qs Q k * q i := by
    intro i k hi hk
    unfold qs
    by_cases e0 : k = 0
    · rw [if_pos e0, if_pos e0, Int.mul_zero, Int.zero_mul]
    · rw [if_neg e0, if_neg e0]
      exact inv_pr sUp (inv (t + 1) i ht hi) (inv (t + 1) (k - 1) ht (by omega))
  have r0 : ∀ i, i < 7 → t ≤ i → r i = 0 := by
    intro i hi hti
    rw [hr i hi]
    unfold qs
    by_cases e1 : i = t + 1
    · subst e1
      rw [if_neg (by omega), show t + 1 - 1 = t by omega, Int.mul_comm, Int.sub_self]
    · have p0 : p i = 0 := by
        by_cases e2 : i = t
        · subst e2
          by_cases q : p i = 0
          · exact q
          · exact absurd ((par i hi).1 q) te
        · exact pz i (by omega) hi
      have q0 : (if i = 0 then 0 else q (i - 1)) = 0 := by
        by_cases e0 : i = 0
        · rw [if_pos e0]
        · rw [if_neg e0]
          by_cases e2 : i = t
          · subst e2
            by_cases q : q (i - 1) = 0
            · exact q
            · have := (par (i - 1) (by omega)).2 q; omega
          · exact qz _ (by omega) (by omega)
      rw [p0, q0, Int.mul_zero, Int.mul_zero, Int.sub_self]
  have rq : ∀ i, i < 7 → (r i = 0 ↔ q' i = 0) := by
    intro i hi
    constructor
    · intro x
      by_cases c0 : c = 0
      · exact hz c0 i hi
      · have := hq i hi
        rw [x] at this
        rcases Int.mul_eq_zero.mp this with y | y
        · exact y
        · omega
    · intro x
      rw [← hq i hi, x, Int.zero_mul]
  have rpar : ∀ i, i < 7 → q' i ≠ 0 → i % 2 = e := by
    intro i hi hne
    have : r i ≠ 0 := fun x => hne ((rq i hi).mp x)
    rw [hr i hi] at this
    by_cases p0 : p i = 0
    · by_cases q0 : qs q i = 0
      · rw [p0, q0, Int.mul_zero, Int.mul_zero] at this; exact absurd rfl this
      · unfold qs at q0
        by_cases e0 : i = 0
        · rw [if_pos e0] at q0; exact absurd rfl q0
        · rw [if_neg e0] at q0
          have := (par (i - 1) (by omega)).2 q0
          omega
    · exact (par i hi).1 p0
  have zq' : ∀ i, i < 7 → 6 ≤ i + (j + 1) → q' i = 0 := fun i hi hij => (rq i hi).mp (r0 i hi (by omega))
  have rb : ∀ i, i < 7 → (r i).natAbs ≤ bR j := by
    intro i hi
    rw [hr i hi]
    have := abs_sub_le (h.bq t (by omega)) (h.bp i hi) (h.bp (t + 1) ht) (bqs i hi)
    unfold bR
    rw [Nat.mul_comm (bQ j)] at this
    omega
  have cne : (∃ i, i < 7 ∧ q' i ≠ 0) → c ≠ 0 := by
    rintro ⟨i, hi, hne⟩ c0
    exact hne (hz c0 i hi)
  have prim' : (∃ i, i < 7 ∧ q' i ≠ 0) → ∀ g : Nat, (∀ i, i < 7 → g ∣ (q' i).natAbs) → g = 1 := by
    intro ex g hg
    have c0 := cne ex
    have : g * c ∣ c := hc _ (fun i hi => by
      rw [← hq i hi, Int.natAbs_mul, Int.natAbs_natCast]
      exact Nat.mul_dvd_mul (hg i hi) (Nat.dvd_refl c))
    have le := Nat.le_of_dvd (by omega) this
    have g0 : g ≠ 0 := by
      rintro rfl
      rw [Nat.zero_mul] at this
      exact c0 (Nat.eq_zero_of_zero_dvd this)
    have : g * c ≤ 1 * c := by omega
    have := Nat.le_of_mul_le_mul_right this (by omega)
    omega
  have q'r : ∀ i, i < 7 → (q' i).natAbs ≤ (r i).natAbs := by
    intro i hi
    by_cases c0 : c = 0
    · rw [hz c0 i hi]; exact Nat.zero_le _
    · rw [← hq i hi]; exact abs_mul_ge (by omega)
  have key : ∀ i, i < 7 → (d * P i - u * qs Q i) * (sD * (q t * q t)) = Q t * d * sU * r i := by
    intro i hi
    rw [hr i hi]
    have i1 := inv i t hi (by omega)
    have i2 := prs t i (by omega) hi
    have e1 : (d * P i - u * qs Q i) * (sD * (q t * q t)) = d * q t * (P i * (sD * q t)) - (u * (sD * q t)) * (qs Q i * q t) := by grind
    have e2 : Q t * d * sU * (q t * p i - p (t + 1) * qs q i) = d * q t * (Q t * (sU * p i)) - (d * (sU * p (t + 1))) * (Q t * qs q i) := by grind
    rw [e1, e2, i1, hud, i2]
  have zB : ∀ i, i < 7 → (B i = 0 ↔ q' i = 0) := by
    intro i hi
    rw [← rq i hi]
    have k := key i hi
    rw [← hB i hi] at k
    constructor
    · intro x
      rw [x, Int.zero_mul, Int.zero_mul] at k
      rcases Int.mul_eq_zero.mp k.symm with y | y
      · exact absurd y (Int.mul_ne_zero (Int.mul_ne_zero Qt (by omega)) sU0)
      · exact y
    · intro x
      rw [x, Int.mul_zero] at k
      rcases Int.mul_eq_zero.mp k with y | y
      · rcases Int.mul_eq_zero.mp y with y | y
        · exact y
        · exact absurd y hG
      · exact absurd y (Int.mul_ne_zero (by omega) (Int.mul_ne_zero qt qt))
  have zA : ∀ i, i < 7 → (A i = 0 ↔ q i = 0) := by
    intro i hi
    rw [← h.zQ i hi]
    have k := hA i hi
    constructor
    · intro x
      rw [x, Int.zero_mul] at k
      rcases Int.mul_eq_zero.mp k.symm with y | y
      · omega
      · exact y
    · intro x
      rw [x, Int.mul_zero] at k
      rcases Int.mul_eq_zero.mp k with y | y
      · exact y
      · exact absurd y hG
  have pw : (9 * 198 ^ (j + 1) : Nat) = 99 * (9 * 198 ^ j) + 99 * (9 * 198 ^ j) := by rw [Nat.pow_succ]; omega
  refine Iv.mk ?_ ?_ ?_ ?_ zq' ⟨t % 2, ?_⟩ ⟨t, by omega, qt⟩ zA zB ?_
  · intro i hi
    have h1 := abs_mul_ge (x := A i) hG
    rw [hA i hi, Int.natAbs_mul] at h1
    have h2 := Nat.mul_le_mul (show d.natAbs ≤ 99 by omega) (h.cQ i hi)
    omega
  · intro i hi
    have h1 := abs_mul_ge (x := B i) hG
    rw [hB i hi] at h1
    have h2 := abs_sub_le (show d.natAbs ≤ 99 by omega) (h.cP i hi) (show u.natAbs ≤ 99 by omega) (bQs i hi)
    omega
  · exact h.bq
  · intro i hi
    have h1 := Nat.le_trans (q'r i hi) (rb i hi)
    by_cases j3 : j + 1 ≤ 3
    · rcases (show j = 0 ∨ j = 1 ∨ j = 2 by omega) with rfl | rfl | rfl <;> exact h1
    · by_cases q0 : q' i = 0
      · rw [q0]; exact Nat.zero_le _
      · have p1 := rpar i hi q0
        have i2 : i + (j + 1) < 6 := by
          by_cases x : i + (j + 1) < 6
          · exact x
          · exact absurd (zq' i hi (by omega)) q0
        have : (q' i).natAbs = 1 := prim' ⟨i, hi, q0⟩ _ (fun k hk => by
          by_cases ek : k = i
          · subst ek; exact Nat.dvd_refl _
          · by_cases k0 : q' k = 0
            · rw [k0]; exact Nat.dvd_zero _
            · have p2 := rpar k hk k0
              have : k + (j + 1) < 6 := by
                by_cases x : k + (j + 1) < 6
                · exact x
                · exact absurd (zq' k hk (by omega)) k0
              omega)
        rw [this]
        rcases (show j = 3 ∨ j = 4 by omega) with rfl | rfl <;> exact Nat.le_refl 1
  · intro i hi
    refine ⟨fun x => ?_, fun x => ?_⟩
    · have := (par i hi).2 x; omega
    · have := rpar i hi x; omega
  · intro ex
    have c0 := cne ex
    obtain ⟨d1, d2, d3, d4⟩ := hs c0
    have n2 : sUb (j + 2) = sUb j * bR j := by cases j <;> rfl
    have cr : ∀ i, i < 7 → c * (q' i).natAbs ≤ bR j := by
      intro i hi
      have := rb i hi
      rw [← hq i hi, Int.natAbs_mul, Int.natAbs_natCast, Nat.mul_comm] at this
      exact this
    have cb : c ≤ bR j := by
      obtain ⟨i, hi, hne⟩ := ex
      exact Nat.le_trans (Nat.le_mul_of_pos_right c (by omega)) (cr i hi)
    refine ⟨?_, d1, Nat.le_trans d3 (sDq t (by omega)), ?_, fun i hi => ?_, fun i k hi hk => ?_, prim' ex⟩
    · intro x
      rw [x, Int.zero_mul] at d2
      exact absurd d2.symm (Int.mul_ne_zero (by omega) (Int.mul_ne_zero (by omega) qt))
    · show sD'.natAbs ≤ sUb (j + 2)
      rw [n2]
      exact Nat.le_trans d4 (Nat.mul_le_mul sUb' cb)
    · show sD'.natAbs * (q' i).natAbs ≤ sUb (j + 2)
      rw [n2]
      refine Nat.le_trans (Nat.mul_le_mul d4 (Nat.le_refl _)) ?_
      rw [Nat.mul_assoc]
      exact Nat.mul_le_mul sUb' (cr i hi)
    · exact inv_sc hG (by omega) sU0 (inv k i hk hi) (prs i k hi hk) (hr k hk) hud (hA i hi) (hB k hk) (hq k hk) d2
