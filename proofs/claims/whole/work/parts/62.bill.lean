/-- part x of a ladder: the coil or the capacitor of arm x / 2 -/
def pU (A : Nat → Int32) (x : Nat) : Int32 := A (5 * (x / 2) + 1 + 2 * (x % 2))
def pD (A : Nat → Int32) (x : Nat) : Int32 := A (5 * (x / 2) + 2 + 2 * (x % 2))
def lkb (A : Nat → Int32) (q : Bool) (y x : Nat) : Bool := decide (pU A y = pU A x) && decide (pD A y = pD A x) && (!q || decide (y % 2 = x % 2))
def nof (l : Nat → Bool) : Nat → Bool
  | 0 => true
  | n + 1 => nof l n && !(l n)
theorem nof_iff {l : Nat → Bool} : ∀ n, nof l n = true ↔ ∀ y, y < n → l y = false
  | 0 => ⟨fun _ y h => absurd h (by omega), fun _ => rfl⟩
  | n + 1 => by
    show (nof l n && !(l n)) = true ↔ _
    rw [Bool.and_eq_true, nof_iff n, Bool.not_eq_true']
    constructor
    · rintro ⟨h1, h2⟩ y hy
      by_cases e : y = n
      · rw [e]; exact h2
      · exact h1 y (by omega)
    · intro h
      exact ⟨fun y hy => h y (by omega), h n (by omega)⟩
def fsb (A : Nat → Int32) (q : Bool) (x : Nat) : Bool := decide (¬ pU A x = 0) && nof (fun y => lkb A q y x) x
def cnt (p : Nat → Bool) : Nat → Nat
  | 0 => 0
  | n + 1 => cnt p n + (if p n = true then 1 else 0)
theorem cnt_le {p : Nat → Bool} : ∀ n, cnt p n ≤ n
  | 0 => Nat.le_refl 0
  | n + 1 => by
    have := cnt_le (p := p) n
    show cnt p n + (if p n = true then 1 else 0) ≤ n + 1
    split <;> omega
theorem cnt_t {p : Nat → Bool} {n : Nat} (h : p n = true) : cnt p (n + 1) = cnt p n + 1 := by
  show cnt p n + (if p n = true then 1 else 0) = _
  rw [if_pos h]
theorem cnt_f {p : Nat → Bool} {n : Nat} (h : p n = false) : cnt p (n + 1) = cnt p n := by
  show cnt p n + (if p n = true then 1 else 0) = _
  rw [h]; rfl
theorem cnt_mono {p : Nat → Bool} {a : Nat} : ∀ d, cnt p a ≤ cnt p (a + d)
  | 0 => Nat.le_refl _
  | d + 1 => Nat.le_trans (cnt_mono d) (Nat.le_add_right _ _)
theorem cnt_lt {p : Nat → Bool} {a b : Nat} (h : a < b) (hp : p a = true) : cnt p a < cnt p b := by
  have h1 := cnt_mono (p := p) (a := a + 1) (b - (a + 1))
  rw [show a + 1 + (b - (a + 1)) = b by omega, cnt_t hp] at h1
  omega
theorem cnt_sur {p : Nat → Bool} : ∀ n i, i < cnt p n → ∃ x, x < n ∧ p x = true ∧ cnt p x = i
  | 0, i, h => absurd h (Nat.not_lt_zero i)
  | n + 1, i, h => by
    by_cases e : i < cnt p n
    · obtain ⟨x, h1, h2⟩ := cnt_sur n i e
      exact ⟨x, by omega, h2⟩
    · cases hp : p n with
      | true => rw [cnt_t hp] at h; exact ⟨n, by omega, hp, by omega⟩
      | false => rw [cnt_f hp] at h; exact absurd h e
theorem cnt_inj {p : Nat → Bool} {a b : Nat} (ha : p a = true) (hb : p b = true) (h : cnt p a = cnt p b) : a = b := by
  rcases Nat.lt_trichotomy a b with g | g | g
  · have := cnt_lt g ha; omega
  · exact g
  · have := cnt_lt g hb; omega
theorem cnt_imp {p r : Nat → Bool} (h : ∀ x, p x = true → r x = true) : ∀ n, cnt p n ≤ cnt r n
  | 0 => Nat.le_refl 0
  | n + 1 => by
    have ih := cnt_imp h n
    cases hp : p n with
    | true => rw [cnt_t hp, cnt_t (h n hp)]; omega
    | false => rw [cnt_f hp]; exact Nat.le_trans ih (Nat.le_add_right _ _)
theorem lk_iff {A : Nat → Int32} {q : Bool} {y x : Nat} : lkb A q y x = true ↔ pU A y = pU A x ∧ pD A y = pD A x ∧ (q = true → y % 2 = x % 2) := by
  unfold lkb
  cases q <;> simp [and_assoc]
theorem fs_iff {A : Nat → Int32} {q : Bool} {x : Nat} : fsb A q x = true ↔ ¬ pU A x = 0 ∧ ∀ y, y < x → lkb A q y x = false := by
  unfold fsb
  rw [Bool.and_eq_true, nof_iff, decide_eq_true_iff]
theorem lk_rep {A : Nat → Int32} {q : Bool} : ∀ n y, y < n → ¬ pU A y = 0 → ∃ x, x ≤ y ∧ fsb A q x = true ∧ lkb A q x y = true
  | 0, y, h, _ => absurd h (Nat.not_lt_zero y)
  | n + 1, y, h, h0 => by
    by_cases e : fsb A q y = true
    · exact ⟨y, Nat.le_refl y, e, lk_iff.mpr ⟨rfl, rfl, fun _ => rfl⟩⟩
    · have : ∃ z, z < y ∧ lkb A q z y = true := by
        apply Classical.byContradiction
        intro hc
        refine e (fs_iff.mpr ⟨h0, fun z hz => ?_⟩)
        cases hl : lkb A q z y with
        | false => rfl
        | true => exact absurd ⟨z, hz, hl⟩ hc
      obtain ⟨z, hz, hl⟩ := this
      obtain ⟨l1, l2, l3⟩ := lk_iff.mp hl
      obtain ⟨x, g1, g2, g3⟩ := lk_rep n z (by omega) (fun hh => h0 (l1 ▸ hh))
      obtain ⟨k1, k2, k3⟩ := lk_iff.mp g3
      exact ⟨x, by omega, g2, lk_iff.mpr ⟨k1.trans l1, k2.trans l2, fun hq => (k3 hq).trans (l3 hq)⟩⟩
theorem d2 : ∀ x, x < 12 → nI x / 2 = nI (x / 2) ∧ nI x - nI x / 2 * 2 = nI (x % 2) := by decide +kernel
theorem px_i {x c : Nat} (hx : x < 12) : (5 : Int32) * (nI x / 2) + nI c + 2 * (nI x - nI x / 2 * 2) = nI (5 * (x / 2) + c + 2 * (x % 2)) := by
  rw [(d2 x hx).2, (d2 x hx).1, i5, show (2 : Int32) = nI 2 from rfl, pk_mul, nI_add]
theorem Mo_partUp_s {I : HI} {x : Nat} (hx : x < 12) : Mo_partUp I N_m 0 (nI x) = some (pU (I 5) x) := by
  unfold Mo_partUp Mo_partUp_0
  rw [mv_5, show (5 : Int32) * (nI x / 2) + 1 + 2 * (nI x - nI x / 2 * 2) = nI (5 * (x / 2) + 1 + 2 * (x % 2)) from px_i (c := 1) hx, gd_of (tm5 (by omega)), nI_clamp (by omega)]
  rfl
theorem Mo_partDown_s {I : HI} {x : Nat} (hx : x < 12) : Mo_partDown I N_m 0 (nI x) = some (pD (I 5) x) := by
  unfold Mo_partDown Mo_partDown_0
  rw [mv_5, show (5 : Int32) * (nI x / 2) + 2 + 2 * (nI x - nI x / 2 * 2) = nI (5 * (x / 2) + 2 + 2 * (x % 2)) from px_i (c := 2) hx, gd_of (tm5 (by omega)), nI_clamp (by omega)]
  rfl
theorem Mo_isLike_s {I : HI} {x y : Nat} {q : Bool} (hx : x < 12) (hy : y < 12) : Mo_isLike I N_m 0 (nI y) (nI x) (b2i q) = some (b2i (lkb (I 5) q y x)) := by
  unfold Mo_isLike Mo_isLike_0 lkb
  rw [Mo_partUp_s hx, Mo_partUp_s hy, bn1_s, bn1_s, Mo_partDown_s hx, Mo_partDown_s hy, bn1_s, bn1_s, (d2 x hx).2, (d2 y hy).2]
  by_cases e1 : pU (I 5) y = pU (I 5) x
  · rw [if_pos e1, decide_eq_true e1]
    by_cases e2 : pD (I 5) y = pD (I 5) x
    · rw [if_pos e2, decide_eq_true e2]
      cases q
      · rw [if_pos b2i_f]; rfl
      · rw [if_neg b2i_t]
        by_cases e3 : y % 2 = x % 2
        · rw [if_pos (congrArg nI e3), decide_eq_true e3]; rfl
        · rw [if_neg (fun h => e3 ((nI_eq (by omega) (by omega)).mp h)), decide_eq_false e3]; rfl
    · rw [if_neg e2, decide_eq_false e2]; rfl
  · rw [if_neg e1, decide_eq_false e1]; rfl
theorem pU_vok {A : Nat → Int32} {m x : Nat} (ha : ∀ k, k < m → aok A k) (hx : x < 2 * m) : vok (pU A x) (pD A x) := by
  have h := ha (x / 2) (by omega)
  unfold pU pD
  rcases (show x % 2 = 0 ∨ x % 2 = 1 by omega) with e | e
  · rw [e]; exact h.2.1
  · rw [e]; exact h.2.2.1
theorem vok_le {u d : Int32} (h : vok u d) : (u ≤ 0) ↔ u = 0 := by
  rcases h with ⟨rfl, _⟩ | ⟨⟨h, _⟩, _⟩
  · exact ⟨fun _ => rfl, fun _ => Int32.le_refl _⟩
  · constructor
    · intro q; rw [Int32.le_iff_toInt_le, i32_0] at q; omega
    · rintro rfl; exact Int32.le_refl _
theorem Mo_isFirst_s {I : HI} {m x : Nat} {q : Bool} (hm : m ≤ 6) (ha : ∀ k, k < m → aok (I 5) k) (hx : x < 2 * m) : Mo_isFirst I N_m 0 (nI x) (b2i q) = some (b2i (fsb (I 5) q x)) := by
  have lp : ∀ s : Bool, Mo_isFirst_17 I N_m 0 (nI x) (b2i q) 256 (b2i s) 0 = some (b2i (s && nof (fun y => lkb (I 5) q y x) x)) := by
    intro s
    have key := up_loop (fun n S y => Mo_isFirst_17 I N_m 0 (nI x) (b2i q) n S y) (fun k => b2i (s && nof (fun y => lkb (I 5) q y x) k)) (some (b2i (s && nof (fun y => lkb (I 5) q y x) x))) x (fun n k hk => ?_) (fun n => ?_) 256 0 (by omega) (by omega)
    · have e0 : (s && nof (fun y => lkb (I 5) q y x) 0) = s := Bool.and_true s
      rw [e0] at key
      exact key
    · show Mo_isFirst_17b I N_m 0 (nI x) (b2i q) (Mo_isFirst_17 I N_m 0 (nI x) (b2i q) n) _ (nI k) = Mo_isFirst_17 I N_m 0 (nI x) (b2i q) n (b2i (s && (nof (fun y => lkb (I 5) q y x) k && !(lkb (I 5) q k x)))) (nI (k + 1))
      unfold Mo_isFirst_17b Mo_isFirst_42 Mo_isFirst_43
      rw [if_neg (nI_ge hk (by omega)), Mo_isLike_s (by omega) (by omega), bn1_s, ← Bool.and_assoc, nI_1]
      cases s && nof (fun y => lkb (I 5) q y x) k
      · rw [if_pos b2i_f]; rfl
      · rw [if_neg b2i_t, Bool.true_and]
        cases lkb (I 5) q k x
        · rw [if_pos b2i_f]; rfl
        · rw [if_neg b2i_t]; rfl
    · show Mo_isFirst_17b I N_m 0 (nI x) (b2i q) (Mo_isFirst_17 I N_m 0 (nI x) (b2i q) n) _ (nI x) = _
      unfold Mo_isFirst_17b
      rw [if_pos (Int32.le_refl _), gd_of (isB_b _)]
  unfold Mo_isFirst Mo_isFirst_0 Mo_isFirst_13 fsb
  rw [Mo_partUp_s (by omega), bn1_s]
  by_cases e : pU (I 5) x = 0
  · rw [if_pos ((vok_le (pU_vok ha hx)).mpr e), decide_eq_false (fun h => h e)]
    exact lp false
  · rw [if_neg (fun h => e ((vok_le (pU_vok ha hx)).mp h)), decide_eq_true e]
    exact lp true
theorem i2m (m : Nat) : (2 : Int32) * nI m = nI (2 * m) := by rw [show (2 : Int32) = nI 2 from rfl, pk_mul]
theorem Mo_parts_s {I : HI} {m : Nat} {q : Bool} (hm : m ≤ 6) (hc : I 0 6 = nI m) (ha : ∀ k, k < m → aok (I 5) k) : Mo_parts I N_m 0 (b2i q) = some (nI (cnt (fsb (I 5) q) (2 * m))) := by
  unfold Mo_parts Mo_parts_0
  refine up_loop (fun n S y => Mo_parts_4 I N_m 0 (b2i q) n S y) (fun k => nI (cnt (fsb (I 5) q) k)) (some (nI (cnt (fsb (I 5) q) (2 * m)))) (2 * m) (fun n k hk => ?_) (fun n => ?_) 256 0 (by omega) (by omega)
  · show Mo_parts_4b I N_m 0 (b2i q) (Mo_parts_4 I N_m 0 (b2i q) n) _ (nI k) = Mo_parts_4 I N_m 0 (b2i q) n (nI (cnt (fsb (I 5) q) (k + 1))) (nI (k + 1))
    unfold Mo_parts_4b Mo_parts_29
    rw [hc, i2m, if_neg (nI_ge hk (by omega)), Mo_isFirst_s hm ha hk, bn1_s, show nI k + 1 = nI (k + 1) from nI_add k 1]
    cases e : fsb (I 5) q k
    · rw [if_pos b2i_f, bd_e, cnt_f e, Int32.add_zero]
    · rw [if_neg b2i_t, bd_e, cnt_t e, show nI (cnt (fsb (I 5) q) k) + 1 = nI (cnt (fsb (I 5) q) k + 1) from nI_add _ 1]
  · show Mo_parts_4b I N_m 0 (b2i q) (Mo_parts_4 I N_m 0 (b2i q) n) _ (nI (2 * m)) = _
    unfold Mo_parts_4b
    rw [hc, i2m, if_pos (Int32.le_refl _)]
theorem Mo_nthPart_s {I : HI} {m x : Nat} (hm : m ≤ 6) (hc : I 0 6 = nI m) (ha : ∀ k, k < m → aok (I 5) k) (hx : x < 2 * m) (hf : fsb (I 5) true x = true) : Mo_nthPart I N_m 0 (nI (cnt (fsb (I 5) true) x)) = some (nI x) := by
  unfold Mo_nthPart Mo_nthPart_0
  refine up_loop (fun n S y => Mo_nthPart_4 I N_m 0 (nI (cnt (fsb (I 5) true) x)) n S y) (fun k => nI (cnt (fsb (I 5) true) k)) (some (nI x)) x (fun n k hk => ?_) (fun n => ?_) 256 0 (by omega) (by omega)
  · show Mo_nthPart_4b I N_m 0 _ (Mo_nthPart_4 I N_m 0 _ n) _ (nI k) = Mo_nthPart_4 I N_m 0 _ n (nI (cnt (fsb (I 5) true) (k + 1))) (nI (k + 1))
    unfold Mo_nthPart_4b Mo_nthPart_33
    rw [hc, i2m, if_neg (nI_ge (by omega) (by omega)), show Mo_isFirst I N_m 0 (nI k) 1 = some (b2i (fsb (I 5) true k)) from Mo_isFirst_s (q := true) hm ha (by omega), bn1_s, show nI k + 1 = nI (k + 1) from nI_add k 1]
    have h1 := cnt_le (p := fsb (I 5) true) x
    have h2 := cnt_le (p := fsb (I 5) true) k
    cases e : fsb (I 5) true k
    · rw [if_pos b2i_f, cnt_f e]
    · have h3 := cnt_lt hk e
      rw [if_neg b2i_t, cnt_t e, if_neg (fun h => by have := (nI_eq (by omega) (by omega)).mp h; omega), show nI (cnt (fsb (I 5) true) k) + 1 = nI (cnt (fsb (I 5) true) k + 1) from nI_add _ 1]
  · show Mo_nthPart_4b I N_m 0 _ (Mo_nthPart_4 I N_m 0 _ n) _ (nI x) = _
    unfold Mo_nthPart_4b
    rw [hc, i2m, if_neg (nI_ge (by omega) (by omega)), show Mo_isFirst I N_m 0 (nI x) 1 = some (b2i (fsb (I 5) true x)) from Mo_isFirst_s (q := true) hm ha (by omega), bn1_s, hf, if_neg b2i_t, if_pos rfl]
theorem Mo_billBy_s {I : HI} {m x j : Nat} (hm : m ≤ 6) (hc : I 0 6 = nI m) (hx : x < 2 * m) (hj : j < 4) : Mo_billBy I N_m 0 (nI x) (nI j) = some (if j = 0 then nI (x % 2) else if j = 1 then pU (I 5) x else if j = 2 then pD (I 5) x else nI (cnt (fun y => lkb (I 5) true y x) (2 * m))) := by
  unfold Mo_billBy Mo_billBy_0
  rcases (show j = 0 ∨ j = 1 ∨ j = 2 ∨ j = 3 by omega) with rfl | rfl | rfl | rfl
  · rw [if_neg (by decide), if_pos rfl, (d2 x (by omega)).2]; rfl
  · rw [if_neg (by decide), if_neg (by decide), if_pos (by decide), Mo_partUp_s (by omega), bn1_s]; rfl
  · rw [if_neg (by decide), if_neg (by decide), if_neg (by decide), Mo_partDown_s (by omega), bn1_s]; rfl
  · rw [if_pos (by decide)]
    show _ = some (nI (cnt (fun y => lkb (I 5) true y x) (2 * m)))
    refine up_loop (fun n S y => Mo_billBy_39 I N_m 0 (nI x) (nI 3) n S y) (fun k => nI (cnt (fun y => lkb (I 5) true y x) k)) (some (nI (cnt (fun y => lkb (I 5) true y x) (2 * m)))) (2 * m) (fun n k hk => ?_) (fun n => ?_) 256 0 (by omega) (by omega)
    · show Mo_billBy_39b I N_m 0 (nI x) (nI 3) (Mo_billBy_39 I N_m 0 (nI x) (nI 3) n) _ (nI k) = Mo_billBy_39 I N_m 0 (nI x) (nI 3) n (nI (cnt (fun y => lkb (I 5) true y x) (k + 1))) (nI (k + 1))
      unfold Mo_billBy_39b Mo_billBy_67
      rw [hc, i2m, if_neg (nI_ge hk (by omega)), show Mo_isLike I N_m 0 (nI k) (nI x) 1 = some (b2i (lkb (I 5) true k x)) from Mo_isLike_s (q := true) (by omega) (by omega), bn1_s, show nI k + 1 = nI (k + 1) from nI_add k 1]
      cases e : lkb (I 5) true k x
      · rw [if_pos b2i_f, bd_e, cnt_f (p := fun y => lkb (I 5) true y x) e, Int32.add_zero]
      · rw [if_neg b2i_t, bd_e, cnt_t (p := fun y => lkb (I 5) true y x) e, show nI (cnt (fun y => lkb (I 5) true y x) k) + 1 = nI (cnt (fun y => lkb (I 5) true y x) k + 1) from nI_add _ 1]
    · show Mo_billBy_39b I N_m 0 (nI x) (nI 3) (Mo_billBy_39 I N_m 0 (nI x) (nI 3) n) _ (nI (2 * m)) = _
      unfold Mo_billBy_39b
      rw [hc, i2m, if_pos (Int32.le_refl _)]
