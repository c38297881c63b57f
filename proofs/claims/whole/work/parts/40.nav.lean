def pr (a : Nat) : Bool := [1, 15, 20, 25, 39, 44, 78].contains a
/-- the references of the class's cells: w says of each pair whether ABOVE and BELOW have changed places -/
def nn (w : Nat → Bool) : HN := fun a k => match pr a && decide (k < 2) with
  | true => some (match (k == 0) == w a with
    | true => a + 3
    | false => a + 1)
  | false => N_c a k
def ab (w : Nat → Bool) (p : Nat) : Nat := match w p with
  | true => p + 3
  | false => p + 1
def be (w : Nat → Bool) (p : Nat) : Nat := match w p with
  | true => p + 1
  | false => p + 3
theorem gd_t {R : Type} {K : Option R} : gd true K = K := rfl
theorem gd_of {R : Type} {b : Bool} {K : Option R} (h : b = true) : gd b K = K := by rw [h]; rfl
theorem rq_of {R : Type} {T : HT} {n b : Nat} {x : Option Nat} {κ : Nat × Nat} {K : Nat → Option R} (h : x = some b) (h1 : b < n) (h2 : T b = κ) : rq T n x κ K = K b := by
  subst h
  show gd (decide (b < n ∧ T b = κ)) (K b) = K b
  rw [decide_eq_true ⟨h1, h2⟩]
  rfl
theorem ra_of {R : Type} {T : HT} {n b κ : Nat} {x : Option Nat} {K : Nat → Option R} (h : x = some b) (h1 : b < n) (h2 : (T b).1 = κ) : ra T n x κ K = K b := by
  subst h
  show gd (decide (b < n ∧ (T b).1 = κ)) (K b) = K b
  rw [decide_eq_true ⟨h1, h2⟩]
  rfl
theorem bn1_of {A R : Type} {x : Option A} {K : A → Option R} {a : A} (h : x = some a) : bn1 x K = K a := by rw [h]; rfl
theorem bn2_of {A B R : Type} {x : Option (A × B)} {K : A → B → Option R} {a : A} {b : B} (h : x = some (a, b)) : bn2 x K = K a b := by rw [h]; rfl
theorem bn3_of {A B C R : Type} {x : Option (A × B × C)} {K : A → B → C → Option R} {a : A} {b : B} {c : C} (h : x = some (a, b, c)) : bn3 x K = K a b c := by rw [h]; rfl
theorem bn4_of {A B C D R : Type} {x : Option (A × B × C × D)} {K : A → B → C → D → Option R} {a : A} {b : B} {c : C} {d : D} (h : x = some (a, b, c, d)) : bn4 x K = K a b c d := by rw [h]; rfl
theorem bn1_s {A R : Type} {K : A → Option R} {a : A} : bn1 (some a) K = K a := rfl
theorem bn2_s {A B R : Type} {K : A → B → Option R} {a : A} {b : B} : bn2 (some (a, b)) K = K a b := rfl
theorem bn3_s {A B C R : Type} {K : A → B → C → Option R} {a : A} {b : B} {c : C} : bn3 (some (a, b, c)) K = K a b c := rfl
theorem bn4_s {A B C D R : Type} {K : A → B → C → D → Option R} {a : A} {b : B} {c : C} {d : D} : bn4 (some (a, b, c, d)) K = K a b c d := rfl
theorem bd_e {A R : Type} {e : A} {K : A → Option R} : bd e K = K e := rfl
theorem inb_nI {k n : Nat} (h : k < n) (hn : n < 2 ^ 31) : inb (nI k) n = true := by
  unfold inb
  rw [nI_clamp (by omega)]
  simp only [h, decide_true, Bool.and_true, Bool.not_eq_true', decide_eq_false_iff_not]
  exact nI_pos (by omega)
theorem up2_va {α : Type} {f : Nat → Nat → α} {r k : Nat} {g : Nat → α} {v : α} : up2 (va_up f r g) r k v = va_up f r (va_up g k v) := by
  funext a
  by_cases h : a = r
  · subst h; rw [up2_at, va_up_at, va_up_at]
  · rw [up2_of h, va_up_of h, va_up_of h]
theorem up2_eq {α : Type} {f : Nat → Nat → α} {r k : Nat} {v : α} : up2 f r k v = va_up f r (va_up (f r) k v) := rfl
theorem va_up_va {α : Type} {f : Nat → α} {r : Nat} {g h : α} : va_up (va_up f r g) r h = va_up f r h := by
  funext a
  by_cases e : a = r
  · subst e; rw [va_up_at, va_up_at]
  · rw [va_up_of e, va_up_of e, va_up_of e]
/-- the first i numbers of a row are g's, the others f's -/
def wrk {α : Type} (i : Nat) (f g : Nat → α) : Nat → α := fun j => if j < i then g j else f j
theorem wrk_0 {α : Type} {f g : Nat → α} : wrk 0 f g = f := by funext j; exact if_neg (Nat.not_lt_zero j)
theorem wrk_s {α : Type} {i : Nat} {f g : Nat → α} : va_up (wrk i f g) i (g i) = wrk (i + 1) f g := by
  funext j
  unfold wrk va_up
  by_cases h : j = i
  · subst h; rw [if_pos rfl, if_pos (Nat.lt_succ_self _)]
  · rw [if_neg h]
    show (if j < i then g j else f j) = _
    by_cases h2 : j < i
    · rw [if_pos h2, if_pos (by omega)]
    · rw [if_neg h2, if_neg (by omega)]
theorem wrk_lt {α : Type} {i j : Nat} {f g : Nat → α} (h : j < i) : wrk i f g j = g j := if_pos h
theorem wrk_ge {α : Type} {i j : Nat} {f g : Nat → α} (h : i ≤ j) : wrk i f g j = f j := if_neg (Nat.not_lt.mpr h)
theorem nv_0_0 {R : Type} {w : Nat → Bool} {K : Nat → Option R} : rq Tc nC (nn w 0 0) (0, 5) K = K 1 := rq_of (by rfl) (by decide) rfl
theorem nv_0_1 {R : Type} {w : Nat → Bool} {K : Nat → Option R} : rq Tc nC (nn w 0 1) (0, 3) K = K 6 := rq_of (by rfl) (by decide) rfl
theorem nv_0_2 {R : Type} {w : Nat → Bool} {K : Nat → Option R} : rq Tc nC (nn w 0 2) (0, 1) K = K 14 := rq_of (by rfl) (by decide) rfl
theorem nv_0_3 {R : Type} {w : Nat → Bool} {K : Nat → Option R} : rq Tc nC (nn w 0 3) (0, 9) K = K 30 := rq_of (by rfl) (by decide) rfl
theorem nv_0_4 {R : Type} {w : Nat → Bool} {K : Nat → Option R} : rq Tc nC (nn w 0 4) (0, 0) K = K 56 := rq_of (by rfl) (by decide) rfl
theorem nv_0_5 {R : Type} {w : Nat → Bool} {K : Nat → Option R} : rq Tc nC (nn w 0 5) (0, 4) K = K 64 := rq_of (by rfl) (by decide) rfl
theorem nv_0_6 {R : Type} {w : Nat → Bool} {K : Nat → Option R} : rq Tc nC (nn w 0 6) (0, 8) K = K 83 := rq_of (by rfl) (by decide) rfl
theorem nv_0_7 {R : Type} {w : Nat → Bool} {K : Nat → Option R} : rq Tc nC (nn w 0 7) (0, 7) K = K 89 := rq_of (by rfl) (by decide) rfl
theorem nv_1_0 {R : Type} {w : Nat → Bool} {K : Nat → Option R} : rq Tc nC (nn w 1 0) (0, 6) K = K (ab w 1) := by
  have e : nn w 1 0 = some (ab w 1) := by
    unfold ab nn
    cases w 1 <;> rfl
  exact rq_of e (by unfold ab; cases w 1 <;> decide) (by unfold ab; cases w 1 <;> rfl)
theorem nv_1_1 {R : Type} {w : Nat → Bool} {K : Nat → Option R} : rq Tc nC (nn w 1 1) (0, 6) K = K (be w 1) := by
  have e : nn w 1 1 = some (be w 1) := by
    unfold be nn
    cases w 1 <;> rfl
  exact rq_of e (by unfold be; cases w 1 <;> decide) (by unfold be; cases w 1 <;> rfl)
theorem nv_2_0 {R : Type} {w : Nat → Bool} {K : Nat → Option R} : ra Tc nC (nn w 2 0) 2 K = K 3 := ra_of (by rfl) (by decide) rfl
theorem nv_4_0 {R : Type} {w : Nat → Bool} {K : Nat → Option R} : ra Tc nC (nn w 4 0) 2 K = K 5 := ra_of (by rfl) (by decide) rfl
theorem nv_6_0 {R : Type} {w : Nat → Bool} {K : Nat → Option R} : ra Tc nC (nn w 6 0) 3 K = K 7 := ra_of (by rfl) (by decide) rfl
theorem nv_7_0 {R : Type} {w : Nat → Bool} {K : Nat → Option R} : ra Tc nC (nn w 7 0) 1 K = K 8 := ra_of (by rfl) (by decide) rfl
theorem nv_7_1 {R : Type} {w : Nat → Bool} {K : Nat → Option R} : ra Tc nC (nn w 7 1) 1 K = K 9 := ra_of (by rfl) (by decide) rfl
theorem nv_7_2 {R : Type} {w : Nat → Bool} {K : Nat → Option R} : ra Tc nC (nn w 7 2) 1 K = K 10 := ra_of (by rfl) (by decide) rfl
theorem nv_7_3 {R : Type} {w : Nat → Bool} {K : Nat → Option R} : ra Tc nC (nn w 7 3) 1 K = K 11 := ra_of (by rfl) (by decide) rfl
theorem nv_7_4 {R : Type} {w : Nat → Bool} {K : Nat → Option R} : ra Tc nC (nn w 7 4) 1 K = K 12 := ra_of (by rfl) (by decide) rfl
theorem nv_7_5 {R : Type} {w : Nat → Bool} {K : Nat → Option R} : ra Tc nC (nn w 7 5) 1 K = K 13 := ra_of (by rfl) (by decide) rfl
theorem nv_14_0 {R : Type} {w : Nat → Bool} {K : Nat → Option R} : rq Tc nC (nn w 14 0) (0, 5) K = K 15 := rq_of (by rfl) (by decide) rfl
theorem nv_14_1 {R : Type} {w : Nat → Bool} {K : Nat → Option R} : rq Tc nC (nn w 14 1) (0, 5) K = K 20 := rq_of (by rfl) (by decide) rfl
theorem nv_14_2 {R : Type} {w : Nat → Bool} {K : Nat → Option R} : rq Tc nC (nn w 14 2) (0, 5) K = K 25 := rq_of (by rfl) (by decide) rfl
theorem nv_15_0 {R : Type} {w : Nat → Bool} {K : Nat → Option R} : rq Tc nC (nn w 15 0) (0, 6) K = K (ab w 15) := by
  have e : nn w 15 0 = some (ab w 15) := by
    unfold ab nn
    cases w 15 <;> rfl
  exact rq_of e (by unfold ab; cases w 15 <;> decide) (by unfold ab; cases w 15 <;> rfl)
theorem nv_15_1 {R : Type} {w : Nat → Bool} {K : Nat → Option R} : rq Tc nC (nn w 15 1) (0, 6) K = K (be w 15) := by
  have e : nn w 15 1 = some (be w 15) := by
    unfold be nn
    cases w 15 <;> rfl
  exact rq_of e (by unfold be; cases w 15 <;> decide) (by unfold be; cases w 15 <;> rfl)
theorem nv_16_0 {R : Type} {w : Nat → Bool} {K : Nat → Option R} : ra Tc nC (nn w 16 0) 2 K = K 17 := ra_of (by rfl) (by decide) rfl
theorem nv_18_0 {R : Type} {w : Nat → Bool} {K : Nat → Option R} : ra Tc nC (nn w 18 0) 2 K = K 19 := ra_of (by rfl) (by decide) rfl
theorem nv_20_0 {R : Type} {w : Nat → Bool} {K : Nat → Option R} : rq Tc nC (nn w 20 0) (0, 6) K = K (ab w 20) := by
  have e : nn w 20 0 = some (ab w 20) := by
    unfold ab nn
    cases w 20 <;> rfl
  exact rq_of e (by unfold ab; cases w 20 <;> decide) (by unfold ab; cases w 20 <;> rfl)
theorem nv_20_1 {R : Type} {w : Nat → Bool} {K : Nat → Option R} : rq Tc nC (nn w 20 1) (0, 6) K = K (be w 20) := by
  have e : nn w 20 1 = some (be w 20) := by
    unfold be nn
    cases w 20 <;> rfl
  exact rq_of e (by unfold be; cases w 20 <;> decide) (by unfold be; cases w 20 <;> rfl)
theorem nv_21_0 {R : Type} {w : Nat → Bool} {K : Nat → Option R} : ra Tc nC (nn w 21 0) 2 K = K 22 := ra_of (by rfl) (by decide) rfl
theorem nv_23_0 {R : Type} {w : Nat → Bool} {K : Nat → Option R} : ra Tc nC (nn w 23 0) 2 K = K 24 := ra_of (by rfl) (by decide) rfl
theorem nv_25_0 {R : Type} {w : Nat → Bool} {K : Nat → Option R} : rq Tc nC (nn w 25 0) (0, 6) K = K (ab w 25) := by
  have e : nn w 25 0 = some (ab w 25) := by
    unfold ab nn
    cases w 25 <;> rfl
  exact rq_of e (by unfold ab; cases w 25 <;> decide) (by unfold ab; cases w 25 <;> rfl)
theorem nv_25_1 {R : Type} {w : Nat → Bool} {K : Nat → Option R} : rq Tc nC (nn w 25 1) (0, 6) K = K (be w 25) := by
  have e : nn w 25 1 = some (be w 25) := by
    unfold be nn
    cases w 25 <;> rfl
  exact rq_of e (by unfold be; cases w 25 <;> decide) (by unfold be; cases w 25 <;> rfl)
theorem nv_26_0 {R : Type} {w : Nat → Bool} {K : Nat → Option R} : ra Tc nC (nn w 26 0) 2 K = K 27 := ra_of (by rfl) (by decide) rfl
theorem nv_28_0 {R : Type} {w : Nat → Bool} {K : Nat → Option R} : ra Tc nC (nn w 28 0) 2 K = K 29 := ra_of (by rfl) (by decide) rfl
theorem nv_30_0 {R : Type} {w : Nat → Bool} {K : Nat → Option R} : rq Tc nC (nn w 30 0) (0, 3) K = K 31 := rq_of (by rfl) (by decide) rfl
theorem nv_30_1 {R : Type} {w : Nat → Bool} {K : Nat → Option R} : rq Tc nC (nn w 30 1) (0, 5) K = K 39 := rq_of (by rfl) (by decide) rfl
theorem nv_30_2 {R : Type} {w : Nat → Bool} {K : Nat → Option R} : rq Tc nC (nn w 30 2) (0, 5) K = K 44 := rq_of (by rfl) (by decide) rfl
theorem nv_30_3 {R : Type} {w : Nat → Bool} {K : Nat → Option R} : rq Tc nC (nn w 30 3) (0, 6) K = K 49 := rq_of (by rfl) (by decide) rfl
theorem nv_30_4 {R : Type} {w : Nat → Bool} {K : Nat → Option R} : rq Tc nC (nn w 30 4) (0, 2) K = K 51 := rq_of (by rfl) (by decide) rfl
theorem nv_30_5 {R : Type} {w : Nat → Bool} {K : Nat → Option R} : rq Tc nC (nn w 30 5) (0, 2) K = K 52 := rq_of (by rfl) (by decide) rfl
theorem nv_30_6 {R : Type} {w : Nat → Bool} {K : Nat → Option R} : ra Tc nC (nn w 30 6) 1 K = K 53 := ra_of (by rfl) (by decide) rfl
theorem nv_30_7 {R : Type} {w : Nat → Bool} {K : Nat → Option R} : ra Tc nC (nn w 30 7) 1 K = K 54 := ra_of (by rfl) (by decide) rfl
theorem nv_30_8 {R : Type} {w : Nat → Bool} {K : Nat → Option R} : ra Tc nC (nn w 30 8) 1 K = K 55 := ra_of (by rfl) (by decide) rfl
theorem nv_31_0 {R : Type} {w : Nat → Bool} {K : Nat → Option R} : ra Tc nC (nn w 31 0) 3 K = K 32 := ra_of (by rfl) (by decide) rfl
theorem nv_32_0 {R : Type} {w : Nat → Bool} {K : Nat → Option R} : ra Tc nC (nn w 32 0) 1 K = K 33 := ra_of (by rfl) (by decide) rfl
theorem nv_32_1 {R : Type} {w : Nat → Bool} {K : Nat → Option R} : ra Tc nC (nn w 32 1) 1 K = K 34 := ra_of (by rfl) (by decide) rfl
theorem nv_32_2 {R : Type} {w : Nat → Bool} {K : Nat → Option R} : ra Tc nC (nn w 32 2) 1 K = K 35 := ra_of (by rfl) (by decide) rfl
theorem nv_32_3 {R : Type} {w : Nat → Bool} {K : Nat → Option R} : ra Tc nC (nn w 32 3) 1 K = K 36 := ra_of (by rfl) (by decide) rfl
theorem nv_32_4 {R : Type} {w : Nat → Bool} {K : Nat → Option R} : ra Tc nC (nn w 32 4) 1 K = K 37 := ra_of (by rfl) (by decide) rfl
theorem nv_32_5 {R : Type} {w : Nat → Bool} {K : Nat → Option R} : ra Tc nC (nn w 32 5) 1 K = K 38 := ra_of (by rfl) (by decide) rfl
theorem nv_39_0 {R : Type} {w : Nat → Bool} {K : Nat → Option R} : rq Tc nC (nn w 39 0) (0, 6) K = K (ab w 39) := by
  have e : nn w 39 0 = some (ab w 39) := by
    unfold ab nn
    cases w 39 <;> rfl
  exact rq_of e (by unfold ab; cases w 39 <;> decide) (by unfold ab; cases w 39 <;> rfl)
theorem nv_39_1 {R : Type} {w : Nat → Bool} {K : Nat → Option R} : rq Tc nC (nn w 39 1) (0, 6) K = K (be w 39) := by
  have e : nn w 39 1 = some (be w 39) := by
    unfold be nn
    cases w 39 <;> rfl
  exact rq_of e (by unfold be; cases w 39 <;> decide) (by unfold be; cases w 39 <;> rfl)
theorem nv_40_0 {R : Type} {w : Nat → Bool} {K : Nat → Option R} : ra Tc nC (nn w 40 0) 2 K = K 41 := ra_of (by rfl) (by decide) rfl
theorem nv_42_0 {R : Type} {w : Nat → Bool} {K : Nat → Option R} : ra Tc nC (nn w 42 0) 2 K = K 43 := ra_of (by rfl) (by decide) rfl
theorem nv_44_0 {R : Type} {w : Nat → Bool} {K : Nat → Option R} : rq Tc nC (nn w 44 0) (0, 6) K = K (ab w 44) := by
  have e : nn w 44 0 = some (ab w 44) := by
    unfold ab nn
    cases w 44 <;> rfl
  exact rq_of e (by unfold ab; cases w 44 <;> decide) (by unfold ab; cases w 44 <;> rfl)
theorem nv_44_1 {R : Type} {w : Nat → Bool} {K : Nat → Option R} : rq Tc nC (nn w 44 1) (0, 6) K = K (be w 44) := by
  have e : nn w 44 1 = some (be w 44) := by
    unfold be nn
    cases w 44 <;> rfl
  exact rq_of e (by unfold be; cases w 44 <;> decide) (by unfold be; cases w 44 <;> rfl)
theorem nv_45_0 {R : Type} {w : Nat → Bool} {K : Nat → Option R} : ra Tc nC (nn w 45 0) 2 K = K 46 := ra_of (by rfl) (by decide) rfl
theorem nv_47_0 {R : Type} {w : Nat → Bool} {K : Nat → Option R} : ra Tc nC (nn w 47 0) 2 K = K 48 := ra_of (by rfl) (by decide) rfl
theorem nv_49_0 {R : Type} {w : Nat → Bool} {K : Nat → Option R} : ra Tc nC (nn w 49 0) 2 K = K 50 := ra_of (by rfl) (by decide) rfl
theorem nv_56_0 {R : Type} {w : Nat → Bool} {K : Nat → Option R} : ra Tc nC (nn w 56 0) 3 K = K 57 := ra_of (by rfl) (by decide) rfl
theorem nv_57_0 {R : Type} {w : Nat → Bool} {K : Nat → Option R} : ra Tc nC (nn w 57 0) 1 K = K 58 := ra_of (by rfl) (by decide) rfl
theorem nv_57_1 {R : Type} {w : Nat → Bool} {K : Nat → Option R} : ra Tc nC (nn w 57 1) 1 K = K 59 := ra_of (by rfl) (by decide) rfl
theorem nv_57_2 {R : Type} {w : Nat → Bool} {K : Nat → Option R} : ra Tc nC (nn w 57 2) 1 K = K 60 := ra_of (by rfl) (by decide) rfl
theorem nv_57_3 {R : Type} {w : Nat → Bool} {K : Nat → Option R} : ra Tc nC (nn w 57 3) 1 K = K 61 := ra_of (by rfl) (by decide) rfl
theorem nv_57_4 {R : Type} {w : Nat → Bool} {K : Nat → Option R} : ra Tc nC (nn w 57 4) 1 K = K 62 := ra_of (by rfl) (by decide) rfl
theorem nv_57_5 {R : Type} {w : Nat → Bool} {K : Nat → Option R} : ra Tc nC (nn w 57 5) 1 K = K 63 := ra_of (by rfl) (by decide) rfl
theorem nv_64_0 {R : Type} {w : Nat → Bool} {K : Nat → Option R} : ra Tc nC (nn w 64 0) 3 K = K 65 := ra_of (by rfl) (by decide) rfl
theorem nv_64_1 {R : Type} {w : Nat → Bool} {K : Nat → Option R} : rq Tc nC (nn w 64 1) (0, 5) K = K 78 := rq_of (by rfl) (by decide) rfl
theorem nv_65_0 {R : Type} {w : Nat → Bool} {K : Nat → Option R} : ra Tc nC (nn w 65 0) 1 K = K 66 := ra_of (by rfl) (by decide) rfl
theorem nv_65_1 {R : Type} {w : Nat → Bool} {K : Nat → Option R} : ra Tc nC (nn w 65 1) 1 K = K 67 := ra_of (by rfl) (by decide) rfl
theorem nv_65_2 {R : Type} {w : Nat → Bool} {K : Nat → Option R} : ra Tc nC (nn w 65 2) 1 K = K 68 := ra_of (by rfl) (by decide) rfl
theorem nv_65_3 {R : Type} {w : Nat → Bool} {K : Nat → Option R} : ra Tc nC (nn w 65 3) 1 K = K 69 := ra_of (by rfl) (by decide) rfl
theorem nv_65_4 {R : Type} {w : Nat → Bool} {K : Nat → Option R} : ra Tc nC (nn w 65 4) 1 K = K 70 := ra_of (by rfl) (by decide) rfl
theorem nv_65_5 {R : Type} {w : Nat → Bool} {K : Nat → Option R} : ra Tc nC (nn w 65 5) 1 K = K 71 := ra_of (by rfl) (by decide) rfl
theorem nv_65_6 {R : Type} {w : Nat → Bool} {K : Nat → Option R} : ra Tc nC (nn w 65 6) 1 K = K 72 := ra_of (by rfl) (by decide) rfl
theorem nv_65_7 {R : Type} {w : Nat → Bool} {K : Nat → Option R} : ra Tc nC (nn w 65 7) 1 K = K 73 := ra_of (by rfl) (by decide) rfl
theorem nv_65_8 {R : Type} {w : Nat → Bool} {K : Nat → Option R} : ra Tc nC (nn w 65 8) 1 K = K 74 := ra_of (by rfl) (by decide) rfl
theorem nv_65_9 {R : Type} {w : Nat → Bool} {K : Nat → Option R} : ra Tc nC (nn w 65 9) 1 K = K 75 := ra_of (by rfl) (by decide) rfl
theorem nv_65_10 {R : Type} {w : Nat → Bool} {K : Nat → Option R} : ra Tc nC (nn w 65 10) 1 K = K 76 := ra_of (by rfl) (by decide) rfl
theorem nv_65_11 {R : Type} {w : Nat → Bool} {K : Nat → Option R} : ra Tc nC (nn w 65 11) 1 K = K 77 := ra_of (by rfl) (by decide) rfl
theorem nv_78_0 {R : Type} {w : Nat → Bool} {K : Nat → Option R} : rq Tc nC (nn w 78 0) (0, 6) K = K (ab w 78) := by
  have e : nn w 78 0 = some (ab w 78) := by
    unfold ab nn
    cases w 78 <;> rfl
  exact rq_of e (by unfold ab; cases w 78 <;> decide) (by unfold ab; cases w 78 <;> rfl)
theorem nv_78_1 {R : Type} {w : Nat → Bool} {K : Nat → Option R} : rq Tc nC (nn w 78 1) (0, 6) K = K (be w 78) := by
  have e : nn w 78 1 = some (be w 78) := by
    unfold be nn
    cases w 78 <;> rfl
  exact rq_of e (by unfold be; cases w 78 <;> decide) (by unfold be; cases w 78 <;> rfl)
theorem nv_79_0 {R : Type} {w : Nat → Bool} {K : Nat → Option R} : ra Tc nC (nn w 79 0) 2 K = K 80 := ra_of (by rfl) (by decide) rfl
theorem nv_81_0 {R : Type} {w : Nat → Bool} {K : Nat → Option R} : ra Tc nC (nn w 81 0) 2 K = K 82 := ra_of (by rfl) (by decide) rfl
theorem nv_83_0 {R : Type} {w : Nat → Bool} {K : Nat → Option R} : ra Tc nC (nn w 83 0) 4 K = K 84 := ra_of (by rfl) (by decide) rfl
theorem nv_83_1 {R : Type} {w : Nat → Bool} {K : Nat → Option R} : ra Tc nC (nn w 83 1) 1 K = K 88 := ra_of (by rfl) (by decide) rfl
theorem nv_84_0 {R : Type} {w : Nat → Bool} {K : Nat → Option R} : ra Tc nC (nn w 84 0) 2 K = K 85 := ra_of (by rfl) (by decide) rfl
theorem nv_84_1 {R : Type} {w : Nat → Bool} {K : Nat → Option R} : ra Tc nC (nn w 84 1) 2 K = K 86 := ra_of (by rfl) (by decide) rfl
theorem nv_84_2 {R : Type} {w : Nat → Bool} {K : Nat → Option R} : ra Tc nC (nn w 84 2) 2 K = K 87 := ra_of (by rfl) (by decide) rfl
theorem nv_89_0 {R : Type} {w : Nat → Bool} {K : Nat → Option R} : rq Tc nC (nn w 89 0) (0, 6) K = K 90 := rq_of (by rfl) (by decide) rfl
theorem nv_89_1 {R : Type} {w : Nat → Bool} {K : Nat → Option R} : rq Tc nC (nn w 89 1) (0, 2) K = K 92 := rq_of (by rfl) (by decide) rfl
theorem nv_90_0 {R : Type} {w : Nat → Bool} {K : Nat → Option R} : ra Tc nC (nn w 90 0) 2 K = K 91 := ra_of (by rfl) (by decide) rfl
theorem mv_1 {R : Type} {K : Nat → Option R} : ra Tm nM (N_m 0 1) 1 K = K 1 := ra_of (by rfl) (by decide) rfl
theorem mv_2 {R : Type} {K : Nat → Option R} : ra Tm nM (N_m 0 2) 2 K = K 2 := ra_of (by rfl) (by decide) rfl
theorem mv_3 {R : Type} {K : Nat → Option R} : ra Tm nM (N_m 0 3) 2 K = K 3 := ra_of (by rfl) (by decide) rfl
theorem mv_4 {R : Type} {K : Nat → Option R} : ra Tm nM (N_m 0 4) 1 K = K 4 := ra_of (by rfl) (by decide) rfl
theorem mv_5 {R : Type} {K : Nat → Option R} : ra Tm nM (N_m 0 5) 1 K = K 5 := ra_of (by rfl) (by decide) rfl
theorem mv_7 {R : Type} {K : Nat → Option R} : ra Tm nM (N_m 0 7) 1 K = K 6 := ra_of (by rfl) (by decide) rfl
theorem mv_11 {R : Type} {K : Nat → Option R} : ra Tm nM (N_m 0 11) 2 K = K 7 := ra_of (by rfl) (by decide) rfl
theorem mv_12 {R : Type} {K : Nat → Option R} : ra Tm nM (N_m 0 12) 2 K = K 8 := ra_of (by rfl) (by decide) rfl
theorem mv_15 {R : Type} {K : Nat → Option R} : ra Tm nM (N_m 0 15) 2 K = K 9 := ra_of (by rfl) (by decide) rfl
theorem mv_16 {R : Type} {K : Nat → Option R} : ra Tm nM (N_m 0 16) 2 K = K 10 := ra_of (by rfl) (by decide) rfl
theorem mv_17 {R : Type} {K : Nat → Option R} : ra Tm nM (N_m 0 17) 2 K = K 11 := ra_of (by rfl) (by decide) rfl
theorem mv_18 {R : Type} {K : Nat → Option R} : ra Tm nM (N_m 0 18) 2 K = K 12 := ra_of (by rfl) (by decide) rfl
theorem mv_19 {R : Type} {K : Nat → Option R} : ra Tm nM (N_m 0 19) 1 K = K 13 := ra_of (by rfl) (by decide) rfl
theorem mv_20 {R : Type} {K : Nat → Option R} : ra Tm nM (N_m 0 20) 1 K = K 14 := ra_of (by rfl) (by decide) rfl
theorem mv_22 {R : Type} {K : Nat → Option R} : ra Tm nM (N_m 0 22) 2 K = K 15 := ra_of (by rfl) (by decide) rfl
theorem mv_23 {R : Type} {K : Nat → Option R} : ra Tm nM (N_m 0 23) 2 K = K 16 := ra_of (by rfl) (by decide) rfl
theorem mv_24 {R : Type} {K : Nat → Option R} : ra Tm nM (N_m 0 24) 2 K = K 17 := ra_of (by rfl) (by decide) rfl
theorem mv_25 {R : Type} {K : Nat → Option R} : ra Tm nM (N_m 0 25) 2 K = K 18 := ra_of (by rfl) (by decide) rfl
theorem mv_26 {R : Type} {K : Nat → Option R} : ra Tm nM (N_m 0 26) 2 K = K 19 := ra_of (by rfl) (by decide) rfl
theorem mv_27 {R : Type} {K : Nat → Option R} : ra Tm nM (N_m 0 27) 2 K = K 20 := ra_of (by rfl) (by decide) rfl
theorem mv_28 {R : Type} {K : Nat → Option R} : ra Tm nM (N_m 0 28) 2 K = K 21 := ra_of (by rfl) (by decide) rfl
theorem mv_29 {R : Type} {K : Nat → Option R} : ra Tm nM (N_m 0 29) 1 K = K 22 := ra_of (by rfl) (by decide) rfl
theorem mv_30 {R : Type} {K : Nat → Option R} : ra Tm nM (N_m 0 30) 1 K = K 23 := ra_of (by rfl) (by decide) rfl
theorem mv_32 {R : Type} {K : Nat → Option R} : ra Tm nM (N_m 0 32) 1 K = K 24 := ra_of (by rfl) (by decide) rfl
def isPo (a : Nat) : Prop := Tc a = (0, 6) ∧ Tc (a + 1) = (2, 7) ∧ a + 1 < nC ∧ ∀ w, nn w a 0 = some (a + 1)
theorem po_2 : isPo 2 := ⟨rfl, rfl, by decide, fun _ => rfl⟩
theorem po_4 : isPo 4 := ⟨rfl, rfl, by decide, fun _ => rfl⟩
theorem po_16 : isPo 16 := ⟨rfl, rfl, by decide, fun _ => rfl⟩
theorem po_18 : isPo 18 := ⟨rfl, rfl, by decide, fun _ => rfl⟩
theorem po_21 : isPo 21 := ⟨rfl, rfl, by decide, fun _ => rfl⟩
theorem po_23 : isPo 23 := ⟨rfl, rfl, by decide, fun _ => rfl⟩
theorem po_26 : isPo 26 := ⟨rfl, rfl, by decide, fun _ => rfl⟩
theorem po_28 : isPo 28 := ⟨rfl, rfl, by decide, fun _ => rfl⟩
theorem po_40 : isPo 40 := ⟨rfl, rfl, by decide, fun _ => rfl⟩
theorem po_42 : isPo 42 := ⟨rfl, rfl, by decide, fun _ => rfl⟩
theorem po_45 : isPo 45 := ⟨rfl, rfl, by decide, fun _ => rfl⟩
theorem po_47 : isPo 47 := ⟨rfl, rfl, by decide, fun _ => rfl⟩
theorem po_49 : isPo 49 := ⟨rfl, rfl, by decide, fun _ => rfl⟩
theorem po_79 : isPo 79 := ⟨rfl, rfl, by decide, fun _ => rfl⟩
theorem po_81 : isPo 81 := ⟨rfl, rfl, by decide, fun _ => rfl⟩
theorem po_90 : isPo 90 := ⟨rfl, rfl, by decide, fun _ => rfl⟩
theorem pab_1 {w : Nat → Bool} : isPo (ab w 1) := by
  unfold ab
  cases w 1
  · exact po_2
  · exact po_4
theorem pbe_1 {w : Nat → Bool} : isPo (be w 1) := by
  unfold be
  cases w 1
  · exact po_4
  · exact po_2
theorem pab_15 {w : Nat → Bool} : isPo (ab w 15) := by
  unfold ab
  cases w 15
  · exact po_16
  · exact po_18
theorem pbe_15 {w : Nat → Bool} : isPo (be w 15) := by
  unfold be
  cases w 15
  · exact po_18
  · exact po_16
theorem pab_20 {w : Nat → Bool} : isPo (ab w 20) := by
  unfold ab
  cases w 20
  · exact po_21
  · exact po_23
theorem pbe_20 {w : Nat → Bool} : isPo (be w 20) := by
  unfold be
  cases w 20
  · exact po_23
  · exact po_21
theorem pab_25 {w : Nat → Bool} : isPo (ab w 25) := by
  unfold ab
  cases w 25
  · exact po_26
  · exact po_28
theorem pbe_25 {w : Nat → Bool} : isPo (be w 25) := by
  unfold be
  cases w 25
  · exact po_28
  · exact po_26
theorem pab_39 {w : Nat → Bool} : isPo (ab w 39) := by
  unfold ab
  cases w 39
  · exact po_40
  · exact po_42
theorem pbe_39 {w : Nat → Bool} : isPo (be w 39) := by
  unfold be
  cases w 39
  · exact po_42
  · exact po_40
theorem pab_44 {w : Nat → Bool} : isPo (ab w 44) := by
  unfold ab
  cases w 44
  · exact po_45
  · exact po_47
theorem pbe_44 {w : Nat → Bool} : isPo (be w 44) := by
  unfold be
  cases w 44
  · exact po_47
  · exact po_45
theorem pab_78 {w : Nat → Bool} : isPo (ab w 78) := by
  unfold ab
  cases w 78
  · exact po_79
  · exact po_81
theorem pbe_78 {w : Nat → Bool} : isPo (be w 78) := by
  unfold be
  cases w 78
  · exact po_81
  · exact po_79
theorem po_ra {R : Type} {a : Nat} {w : Nat → Bool} {K : Nat → Option R} (h : isPo a) : ra Tc nC (nn w a 0) 2 K = K (a + 1) := ra_of (h.2.2.2 w) h.2.2.1 (by rw [h.2.1])
theorem po_ln {a : Nat} (h : isPo a) : (Tc (a + 1)).2 = 7 := by rw [h.2.1]
def isPa (p : Nat) : Prop := Tc p = (0, 5) ∧ p < nC ∧ (∀ w, nn w p 0 = some (ab w p)) ∧ (∀ w, nn w p 1 = some (be w p)) ∧ isPo (p + 1) ∧ isPo (p + 3) ∧ (∀ w, up2 (up2 (nn w) p 0 (some (be w p))) p 1 (some (ab w p)) = nn (va_up w p (!(w p))))
theorem nn_swap {w : Nat → Bool} {p : Nat} (h : pr p = true) : up2 (up2 (nn w) p 0 (some (be w p))) p 1 (some (ab w p)) = nn (va_up w p (!(w p))) := by
  funext a k
  by_cases e : a = p
  · subst e
    rw [up2_at, up2_at]
    unfold nn
    rw [h, va_up_at]
    match k with
    | 0 => unfold be; cases w a <;> rfl
    | 1 => unfold ab; cases w a <;> rfl
    | k + 2 =>
      rw [va_up_of (by omega), va_up_of (by omega)]
      rw [show decide (k + 2 < 2) = false from decide_eq_false (by omega)]
      rfl
  · rw [up2_of e, up2_of e]
    unfold nn
    rw [va_up_of e]
theorem pa_1 : isPa 1 := ⟨rfl, by decide, fun w => (by unfold ab nn; cases w 1 <;> rfl), fun w => (by unfold be nn; cases w 1 <;> rfl), po_2, po_4, fun w => nn_swap rfl⟩
theorem pa_15 : isPa 15 := ⟨rfl, by decide, fun w => (by unfold ab nn; cases w 15 <;> rfl), fun w => (by unfold be nn; cases w 15 <;> rfl), po_16, po_18, fun w => nn_swap rfl⟩
theorem pa_20 : isPa 20 := ⟨rfl, by decide, fun w => (by unfold ab nn; cases w 20 <;> rfl), fun w => (by unfold be nn; cases w 20 <;> rfl), po_21, po_23, fun w => nn_swap rfl⟩
theorem pa_25 : isPa 25 := ⟨rfl, by decide, fun w => (by unfold ab nn; cases w 25 <;> rfl), fun w => (by unfold be nn; cases w 25 <;> rfl), po_26, po_28, fun w => nn_swap rfl⟩
theorem pa_39 : isPa 39 := ⟨rfl, by decide, fun w => (by unfold ab nn; cases w 39 <;> rfl), fun w => (by unfold be nn; cases w 39 <;> rfl), po_40, po_42, fun w => nn_swap rfl⟩
theorem pa_44 : isPa 44 := ⟨rfl, by decide, fun w => (by unfold ab nn; cases w 44 <;> rfl), fun w => (by unfold be nn; cases w 44 <;> rfl), po_45, po_47, fun w => nn_swap rfl⟩
theorem pa_78 : isPa 78 := ⟨rfl, by decide, fun w => (by unfold ab nn; cases w 78 <;> rfl), fun w => (by unfold be nn; cases w 78 <;> rfl), po_79, po_81, fun w => nn_swap rfl⟩
theorem isPa_ab {p : Nat} (h : isPa p) (w : Nat → Bool) : isPo (ab w p) := by
  unfold ab
  cases w p
  · exact h.2.2.2.2.1
  · exact h.2.2.2.2.2.1
theorem isPa_be {p : Nat} (h : isPa p) (w : Nat → Bool) : isPo (be w p) := by
  unfold be
  cases w p
  · exact h.2.2.2.2.2.1
  · exact h.2.2.2.2.1
theorem pa_0 {R : Type} {p : Nat} {w : Nat → Bool} {K : Nat → Option R} (h : isPa p) : rq Tc nC (nn w p 0) (0, 6) K = K (ab w p) := rq_of (h.2.2.1 w) (by have := (isPa_ab h w).2.2.1; omega) (isPa_ab h w).1
theorem pa_1' {R : Type} {p : Nat} {w : Nat → Bool} {K : Nat → Option R} (h : isPa p) : rq Tc nC (nn w p 1) (0, 6) K = K (be w p) := rq_of (h.2.2.2.1 w) (by have := (isPa_be h w).2.2.1; omega) (isPa_be h w).1
