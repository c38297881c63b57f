theorem nv57 {R : Type} {w : Nat → Bool} {K : Nat → Option R} {k : Nat} (h : k < 6) : ra Tc nC (nn w 57 k) 1 K = K (58 + k) := by
  rcases (show k = 0 ∨ k = 1 ∨ k = 2 ∨ k = 3 ∨ k = 4 ∨ k = 5 by omega) with rfl | rfl | rfl | rfl | rfl | rfl
  · exact nv_57_0
  · exact nv_57_1
  · exact nv_57_2
  · exact nv_57_3
  · exact nv_57_4
  · exact nv_57_5
theorem l58 : ∀ k, k < 6 → (Tc (58 + k)).2 = 4 := by decide
theorem tc58 {k j : Nat} (h : k < 6) (hj : j < 4) : inb (nI j) (Tc (58 + k)).2 = true := by rw [l58 k h]; exact inb_nI hj (by decide)
theorem tc58_0 {k : Nat} (h : k < 6) : inb (0 : Int32) (Tc (58 + k)).2 = true := tc58 (j := 0) h (by decide)
theorem tc58_1 {k : Nat} (h : k < 6) : inb (1 : Int32) (Tc (58 + k)).2 = true := tc58 (j := 1) h (by decide)
theorem tc58_2 {k : Nat} (h : k < 6) : inb (2 : Int32) (Tc (58 + k)).2 = true := tc58 (j := 2) h (by decide)
theorem tc58_3 {k : Nat} (h : k < 6) : inb (3 : Int32) (Tc (58 + k)).2 = true := tc58 (j := 3) h (by decide)
theorem tc57 {k : Nat} (h : k < 6) : inb (nI k) (Tc 57).2 = true := inb_nI h (by decide)
theorem c32_1 : (1 : Int32).toNatClampNeg = 1 := rfl
theorem c32_2 : (2 : Int32).toNatClampNeg = 2 := rfl
theorem c32_3 : (3 : Int32).toNatClampNeg = 3 := rfl
def mt (I : HI) (i : Nat) (p u d : Int32) : Prop := I (58 + i) 0 = p ∧ I (58 + i) 1 = u ∧ I (58 + i) 2 = d
theorem badd_no {w : Nat → Bool} {I : HI} {c k n : Nat} {p u d : Int32} (hc : I 56 1 = nI c) (hc6 : c ≤ 6) (hk : k < c) (h : ¬ mt I k p u d) : Bi_addPart_8 (nn w) 56 p u d (n + 1) I (nI k) = Bi_addPart_8 (nn w) 56 p u d n I (nI (k + 1)) := by
  show Bi_addPart_8b (nn w) 56 p u d (Bi_addPart_8 (nn w) 56 p u d n) I (nI k) = _
  unfold Bi_addPart_8b Bi_addPart_66
  rw [hc, if_neg (nI_ge hk (by omega)), if_neg (n6 (by omega)), nv_56_0, gd_of (tc57 (by omega)), nI_clamp (by omega), nv57 (by omega), gd_of (tc58_0 (by omega)), gd_of (tc58_1 (by omega)), gd_of (tc58_2 (by omega)), gd_of (tc58_3 (by omega)), gd_of (tc58_3 (by omega)), z32, c32_1, c32_2, c32_3, nI_1]
  by_cases e0 : I (58 + k) 0 = p
  · rw [if_pos e0]
    by_cases e1 : I (58 + k) 1 = u
    · rw [if_pos e1, if_neg (fun e2 => h ⟨e0, e1, e2⟩)]
    · rw [if_neg e1]
  · rw [if_neg e0]
theorem badd_yes {w : Nat → Bool} {I : HI} {c k n : Nat} {p u d : Int32} (hc : I 56 1 = nI c) (hc6 : c ≤ 6) (hk : k < c) (h : mt I k p u d) : Bi_addPart_8 (nn w) 56 p u d (n + 1) I (nI k) = some (up2 I (58 + k) 3 (I (58 + k) 3 + 1)) := by
  show Bi_addPart_8b (nn w) 56 p u d (Bi_addPart_8 (nn w) 56 p u d n) I (nI k) = _
  unfold Bi_addPart_8b
  rw [hc, if_neg (nI_ge hk (by omega)), if_neg (n6 (by omega)), nv_56_0, gd_of (tc57 (by omega)), nI_clamp (by omega), nv57 (by omega), gd_of (tc58_0 (by omega)), gd_of (tc58_1 (by omega)), gd_of (tc58_2 (by omega)), gd_of (tc58_3 (by omega)), gd_of (tc58_3 (by omega)), z32, c32_1, c32_2, c32_3, if_pos h.1, if_pos h.2.1, if_pos h.2.2, bd_e]
def brow (p u d : Int32) : Nat → Int32
  | 0 => p
  | 1 => u
  | 2 => d
  | _ => 1
theorem four {f g : Nat → Int32} : va_up (va_up (va_up (va_up f 0 (g 0)) 1 (g 1)) 2 (g 2)) 3 (g 3) = wrk 4 f g := by
  rw [← wrk_s, ← wrk_s, ← wrk_s, ← wrk_s, wrk_0]
theorem badd_new {w : Nat → Bool} {I : HI} {c n : Nat} {p u d : Int32} (hc : I 56 1 = nI c) (hc6 : c < 6) : Bi_addPart_8 (nn w) 56 p u d (n + 1) I (nI c) = some (up2 (va_up I (58 + c) (wrk 4 (I (58 + c)) (brow p u d))) 56 1 (nI (c + 1))) := by
  show Bi_addPart_8b (nn w) 56 p u d (Bi_addPart_8 (nn w) 56 p u d n) I (nI c) = _
  unfold Bi_addPart_8b Bi_addPart_72
  rw [hc, if_pos (Int32.le_refl _), if_neg (n6 hc6), nv_56_0, gd_of (tc57 hc6), nI_clamp (by omega), nv57 hc6, gd_of (tc58_0 hc6), bd_e, gd_of (tc58_1 hc6), bd_e, gd_of (tc58_2 hc6), bd_e, gd_of (tc58_3 hc6), bd_e, bd_e, z32, c32_1, c32_2, c32_3, up2_of (show (56 : Nat) ≠ 58 + c by omega), up2_of (show (56 : Nat) ≠ 58 + c by omega), up2_of (show (56 : Nat) ≠ 58 + c by omega), up2_of (show (56 : Nat) ≠ 58 + c by omega), hc, nI_1, up2_eq (f := I), up2_va, up2_va, up2_va]
  exact congrArg (fun z => some (up2 (va_up I (58 + c) z) 56 1 (nI (c + 1)))) (four (f := I (58 + c)) (g := brow p u d))
theorem badd_find {w : Nat → Bool} {I : HI} {c i : Nat} {p u d : Int32} (hc : I 56 1 = nI c) (hc6 : c ≤ 6) (hi : i < c) (h : mt I i p u d) (hn : ∀ j, j < i → ¬ mt I j p u d) : Bi_addPart_8 (nn w) 56 p u d 256 I 0 = some (up2 I (58 + i) 3 (I (58 + i) 3 + 1)) :=
  up_loop0 (fun n y => Bi_addPart_8 (nn w) 56 p u d n I y) _ i (fun _ k hk => badd_no hc hc6 (by omega) (hn k hk)) (fun _ => badd_yes hc hc6 hi h) 256 0 (by omega) (by omega)
theorem badd_app {w : Nat → Bool} {I : HI} {c : Nat} {p u d : Int32} (hc : I 56 1 = nI c) (hc6 : c < 6) (hn : ∀ j, j < c → ¬ mt I j p u d) : Bi_addPart_8 (nn w) 56 p u d 256 I 0 = some (up2 (va_up I (58 + c) (wrk 4 (I (58 + c)) (brow p u d))) 56 1 (nI (c + 1))) :=
  up_loop0 (fun n y => Bi_addPart_8 (nn w) 56 p u d n I y) _ c (fun _ k hk => badd_no hc (by omega) hk (hn k hk)) (fun _ => badd_new hc hc6) 256 0 (by omega) (by omega)
/-- the bill of the first X parts -/
def RB (I : HI) (A : Nat → Int32) (X : Nat) : Prop := I 56 1 = nI (cnt (fsb A true) X) ∧ ∀ x, x < X → fsb A true x = true → mt I (cnt (fsb A true) x) (nI (x % 2)) (pU A x) (pD A x) ∧ I (58 + cnt (fsb A true) x) 3 = nI (cnt (fun y => lkb A true y x) X)
theorem lk_mt {A : Nat → Int32} {I : HI} {x X : Nat} (h : mt I (cnt (fsb A true) x) (nI (x % 2)) (pU A x) (pD A x)) : mt I (cnt (fsb A true) x) (nI (X % 2)) (pU A X) (pD A X) ↔ lkb A true x X = true := by
  rw [lk_iff]
  obtain ⟨h0, h1, h2⟩ := h
  unfold mt
  rw [h0, h1, h2]
  constructor
  · rintro ⟨g0, g1, g2⟩
    exact ⟨g1, g2, fun _ => (nI_eq (by omega) (by omega)).mp g0⟩
  · rintro ⟨g1, g2, g0⟩
    exact ⟨congrArg nI (g0 rfl), g1, g2⟩
theorem lk_sym {A : Nat → Int32} {q : Bool} {x y : Nat} (h : lkb A q x y = true) : lkb A q y x = true := by
  obtain ⟨h1, h2, h3⟩ := lk_iff.mp h
  exact lk_iff.mpr ⟨h1.symm, h2.symm, fun e => (h3 e).symm⟩
theorem lk_tr {A : Nat → Int32} {q : Bool} {x y z : Nat} (h : lkb A q x y = true) (g : lkb A q y z = true) : lkb A q x z = true := by
  obtain ⟨h1, h2, h3⟩ := lk_iff.mp h
  obtain ⟨g1, g2, g3⟩ := lk_iff.mp g
  exact lk_iff.mpr ⟨h1.trans g1, h2.trans g2, fun e => (h3 e).trans (g3 e)⟩
theorem fs_uni {A : Nat → Int32} {q : Bool} {x y : Nat} (hx : fsb A q x = true) (hy : fsb A q y = true) (h : lkb A q x y = true) : x = y := by
  rcases Nat.lt_trichotomy x y with g | g | g
  · have := (fs_iff.mp hy).2 x g; rw [h] at this; exact Bool.noConfusion this
  · exact g
  · have := (fs_iff.mp hx).2 y g; rw [lk_sym h] at this; exact Bool.noConfusion this
def fB (I I' : HI) : Prop := ∀ a, a ≠ 56 → a < 58 ∨ 63 < a → I' a = I a
theorem bstep {w : Nat → Bool} {I : HI} {A : Nat → Int32} {X : Nat} (h : RB I A X) (h6 : cnt (fsb A true) (X + 1) ≤ 6) : ∃ I' : HI, Bi_addPart (nn w) 56 (nI (X % 2)) (pU A X) (pD A X) I = some I' ∧ RB I' A (X + 1) ∧ fB I I' := by
  obtain ⟨hc, hr⟩ := h
  have c6 : cnt (fsb A true) X ≤ 6 := Nat.le_trans (cnt_mono 1) h6
  unfold Bi_addPart Bi_addPart_0
  by_cases e0 : pU A X = 0
  · have fX : fsb A true X = false := by
      cases e : fsb A true X with
      | false => rfl
      | true => exact absurd e0 (fs_iff.mp e).1
    refine ⟨I, if_pos e0, ⟨by rw [cnt_f fX]; exact hc, fun x hx hf => ?_⟩, fun _ _ _ => rfl⟩
    have hne : x ≠ X := fun q => by rw [q, fX] at hf; exact Bool.noConfusion hf
    have lX : lkb A true X x = false := by
      cases e : lkb A true X x with
      | false => rfl
      | true => exact absurd ((lk_iff.mp e).1.symm.trans e0) (fs_iff.mp hf).1
    have := hr x (by omega) hf
    rw [cnt_f (p := fun y => lkb A true y x) lX]
    exact this
  · rw [if_neg e0]
    by_cases eX : fsb A true X = true
    · have c5 : cnt (fsb A true) X < 6 := by rw [cnt_t eX] at h6; omega
      have hn : ∀ j, j < cnt (fsb A true) X → ¬ mt I j (nI (X % 2)) (pU A X) (pD A X) := by
        intro j hj hm
        obtain ⟨x, g1, g2, g3⟩ := cnt_sur X j hj
        subst g3
        have := (fs_iff.mp eX).2 x g1
        rw [(lk_mt (hr x g1 g2).1).mp hm] at this
        exact Bool.noConfusion this
      refine ⟨_, badd_app hc c5 hn, ⟨by rw [up2_at, va_up_at, cnt_t eX], fun x hx hf => ?_⟩, fun a h1 h2 => by rw [up2_of h1, va_up_of (by omega)]⟩
      by_cases ex : x = X
      · subst ex
        have cnt1 : cnt (fun y => lkb A true y x) (x + 1) = 1 := by
          rw [cnt_t (p := fun y => lkb A true y x) (lk_iff.mpr ⟨rfl, rfl, fun _ => rfl⟩)]
          have z : ∀ n, n ≤ x → cnt (fun y => lkb A true y x) n = 0 := by
            intro n
            induction n with
            | zero => exact fun _ => rfl
            | succ n ih => intro hn; rw [cnt_f (p := fun y => lkb A true y x) ((fs_iff.mp eX).2 n (by omega))]; exact ih (by omega)
          rw [z x (Nat.le_refl x)]
        unfold mt
        rw [up2_of (show 58 + cnt (fsb A true) x ≠ 56 by omega), va_up_at, wrk_lt (by decide), wrk_lt (by decide), wrk_lt (by decide), wrk_lt (by decide), cnt1]
        exact ⟨⟨rfl, rfl, rfl⟩, rfl⟩
      · have lt := cnt_lt (show x < X by omega) hf
        have lX : lkb A true X x = false := by
          cases e : lkb A true X x with
          | false => rfl
          | true => exact absurd (fs_uni eX hf e).symm ex
        have := hr x (by omega) hf
        unfold mt at this ⊢
        rw [up2_of (show 58 + cnt (fsb A true) x ≠ 56 by omega), va_up_of (by omega), cnt_f (p := fun y => lkb A true y x) lX]
        exact this
    · have fX : fsb A true X = false := by
        cases e : fsb A true X with
        | false => rfl
        | true => exact absurd e eX
      obtain ⟨x0, g1, g2, g3⟩ := lk_rep (q := true) (X + 1) X (by omega) e0
      have hlt : x0 < X := by
        rcases Nat.lt_or_ge x0 X with q | q
        · exact q
        · rw [show x0 = X by omega] at g2; exact absurd g2 eX
      have hi := cnt_lt hlt g2
      have hm0 := (hr x0 hlt g2).1
      have hn : ∀ j, j < cnt (fsb A true) x0 → ¬ mt I j (nI (X % 2)) (pU A X) (pD A X) := by
        intro j hj hm
        obtain ⟨x, k1, k2, k3⟩ := cnt_sur x0 j hj
        subst k3
        have l1 := (lk_mt (hr x (by omega) k2).1).mp hm
        have := fs_uni k2 g2 (lk_tr l1 (lk_sym g3))
        omega
      refine ⟨_, badd_find hc c6 hi ((lk_mt hm0).mpr g3) hn, ⟨by rw [up2_of (show (56 : Nat) ≠ 58 + cnt (fsb A true) x0 by omega), cnt_f fX]; exact hc, fun x hx hf => ?_⟩, fun a h1 h2 => up2_of (by omega)⟩
      have hne : x ≠ X := fun q => by rw [q, fX] at hf; exact Bool.noConfusion hf
      have hrx := hr x (by omega) hf
      by_cases ex : x = x0
      · subst ex
        unfold mt at hrx ⊢
        rw [up2_at, va_up_of (by decide), va_up_of (by decide), va_up_of (by decide), va_up_at, hrx.2, cnt_t (p := fun y => lkb A true y x) (lk_sym g3), nI_1]
        exact ⟨hrx.1, rfl⟩
      · have lX : lkb A true X x = false := by
          cases e : lkb A true X x with
          | false => rfl
          | true => exact absurd (fs_uni hf g2 (lk_tr (lk_sym e) (lk_sym g3))) ex
        have nc : cnt (fsb A true) x ≠ cnt (fsb A true) x0 := fun q => ex (cnt_inj hf g2 q)
        unfold mt at hrx ⊢
        rw [up2_of (by omega), cnt_f (p := fun y => lkb A true y x) lX]
        exact hrx
theorem cntU_vc {A : Nat → Int32} : ∀ m, cnt (fun x => decide (¬ pU A x = 0)) (2 * m) = vc A m
  | 0 => rfl
  | m + 1 => by
    have ih := cntU_vc (A := A) m
    have e1 : pU A (2 * m) = A (5 * m + 1) := congrArg A (by omega)
    have e2 : pU A (2 * m + 1) = A (5 * m + 3) := congrArg A (by omega)
    have s : ∀ x, (if decide (¬ pU A x = 0) = true then 1 else 0) = v1 (pU A x) := by
      intro x
      unfold v1
      by_cases e : pU A x = 0
      · rw [decide_eq_false (fun h => h e), if_pos e]; rfl
      · rw [decide_eq_true e, if_neg e]; rfl
    show cnt (fun x => decide (¬ pU A x = 0)) (2 * m) + (if decide (¬ pU A (2 * m) = 0) = true then 1 else 0) + (if decide (¬ pU A (2 * m + 1) = 0) = true then 1 else 0) = vc A m + (v1 (A (5 * m + 1)) + v1 (A (5 * m + 3)))
    rw [s, s, ih, e1, e2, Nat.add_assoc]
theorem cnt_6 {A : Nat → Int32} {m X : Nat} (hv : vc A m ≤ 6) (hX : X ≤ 2 * m) (q : Bool) : cnt (fsb A q) X ≤ 6 := by
  have h1 := cnt_imp (p := fsb A q) (r := fun x => decide (¬ pU A x = 0)) (fun x hx => decide_eq_true (fs_iff.mp hx).1) X
  have h2 := cnt_mono (p := fun x => decide (¬ pU A x = 0)) (a := X) (2 * m - X)
  rw [show X + (2 * m - X) = 2 * m by omega, cntU_vc] at h2
  omega
theorem bcount_s {L m : Nat} {w : Nat → Bool} {I : HI} {A : Nat → Int32} (hL : isLa L) (hL2 : L + 8 ≤ 56) (hm : m ≤ 6) (hc : I L 1 = nI m) (hrow : ∀ k, k < m → ∀ j, j < 5 → I (L + 2 + k) j = A (5 * k + j)) (hv : vc A m ≤ 6) : ∃ I' : HI, Bi_countUp (nn w) 56 L I = some I' ∧ RB I' A (2 * m) ∧ fB I I' := by
  have lp : ∀ (r k n : Nat) (I' : HI), k + r = m → r < n → RB I' A (2 * k) → fB I I' → ∃ I'' : HI, Bi_countUp_7 (nn w) 56 L n I' (nI k) = some I'' ∧ RB I'' A (2 * m) ∧ fB I I'' := by
    intro r
    induction r with
    | zero =>
      intro k n I' hk hn hB hf
      obtain ⟨n, rfl⟩ : ∃ q, n = q + 1 := ⟨n - 1, by omega⟩
      have e : k = m := by omega
      subst e
      refine ⟨I', ?_, hB, hf⟩
      show Bi_countUp_7b (nn w) 56 L (Bi_countUp_7 (nn w) 56 L n) I' (nI k) = _
      unfold Bi_countUp_7b
      rw [hf L (by omega) (by omega), hc, if_pos (Int32.le_refl _)]
    | succ r ih =>
      intro k n I' hk hn hB hf
      obtain ⟨n, rfl⟩ : ∃ q, n = q + 1 := ⟨n - 1, by omega⟩
      have it : ∀ I0 : HI, fB I I0 → ∀ j, j < 5 → La_item I0 (nn w) L (nI k) (nI j) = some (A (5 * k + j)) := fun I0 h0 j hj => by rw [La_item_s hL hm (by rw [h0 L (by omega) (by omega)]; exact hc) (show k < m by omega) hj, h0 (L + 2 + k) (by omega) (by omega), hrow k (by omega) j hj]
      have e1 : pU A (2 * k) = A (5 * k + 1) := congrArg A (by omega)
      have e2 : pU A (2 * k + 1) = A (5 * k + 3) := congrArg A (by omega)
      have e3 : pD A (2 * k) = A (5 * k + 2) := congrArg A (by omega)
      have e4 : pD A (2 * k + 1) = A (5 * k + 4) := congrArg A (by omega)
      obtain ⟨I1, g1, g2, g3⟩ := bstep (w := w) hB (cnt_6 hv (by omega) true)
      obtain ⟨I2, k1, k2, k3⟩ := bstep (w := w) g2 (cnt_6 hv (by omega) true)
      rw [e1, e3, show 2 * k % 2 = 0 by omega] at g1
      rw [e2, e4, show (2 * k + 1) % 2 = 1 by omega] at k1
      have g1' : Bi_addPart (nn w) 56 0 (A (5 * k + 1)) (A (5 * k + 2)) I' = some I1 := g1
      have k1' : Bi_addPart (nn w) 56 1 (A (5 * k + 3)) (A (5 * k + 4)) I1 = some I2 := k1
      have f1 : fB I I1 := fun a h1 h2 => (g3 a h1 h2).trans (hf a h1 h2)
      have f2 : fB I I2 := fun a h1 h2 => (k3 a h1 h2).trans (f1 a h1 h2)
      obtain ⟨I3, l1, l2⟩ := ih (k + 1) n I2 (by omega) (by omega) k2 f2
      refine ⟨I3, ?_, l2⟩
      show Bi_countUp_7b (nn w) 56 L (Bi_countUp_7 (nn w) 56 L n) I' (nI k) = _
      unfold Bi_countUp_7b
      have i1 : La_item I' (nn w) L (nI k) 1 = some (A (5 * k + 1)) := it I' hf 1 (by decide)
      have i2 : La_item I' (nn w) L (nI k) 2 = some (A (5 * k + 2)) := it I' hf 2 (by decide)
      have i3 : La_item I1 (nn w) L (nI k) 3 = some (A (5 * k + 3)) := it I1 f1 3 (by decide)
      have i4 : La_item I1 (nn w) L (nI k) 4 = some (A (5 * k + 4)) := it I1 f1 4 (by decide)
      rw [hf L (by omega) (by omega), hc, if_neg (nI_ge (by omega) (by omega)), i1, bn1_s, i2, bn1_s, g1', bn1_s, i3, bn1_s, i4, bn1_s, k1', bn1_s, nI_1, l1]
  unfold Bi_countUp Bi_countUp_0
  rw [bd_e]
  exact lp m 0 256 (up2 I 56 1 0) (by omega) (by omega) ⟨by rw [up2_at, va_up_at]; rfl, fun x hx => absurd hx (by omega)⟩ (fun a h1 _ => up2_of h1)
theorem Bi_item_s {w : Nat → Bool} {I : HI} {c k j : Nat} (hc6 : c ≤ 6) (hc : I 56 1 = nI c) (hk : k < c) (hj : j < 4) : Bi_item I (nn w) 56 (nI k) (nI j) = some (I (58 + k) j) := by
  unfold Bi_item Bi_item_0 Bi_item_32
  rw [if_neg (nI_pos (by omega)), hc, if_neg (nI_ge hk (by omega)), if_neg (n6 (by omega)), if_neg (nI_pos (by omega)), if_neg (show ¬ (4 : Int32) ≤ nI j from nI_ge (a := j) (b := 4) hj (by decide)), if_neg (by decide), nv_56_0, gd_of (tc57 (by omega)), nI_clamp (by omega), nv57 (by omega), gd_of (tc58 (by omega) hj), nI_clamp (by omega)]
