/-- a long of at most n, up to its sign -/
def lb (x : Int64) (n : Nat) : Prop := x.toInt.natAbs ≤ n
theorem lb_mono {x : Int64} {a b : Nat} (h : lb x a) (hab : a ≤ b) : lb x b := Nat.le_trans h hab
theorem lb_0 {n : Nat} : lb 0 n := Nat.zero_le n
theorem lb_nm {x : Int64} {n : Nat} (h : lb x n) (hn : n < 2 ^ 63) : nm x := by
  unfold nm; unfold lb at h; omega
theorem lb_mul {x y : Int64} {a b : Nat} (hx : lb x a) (hy : lb y b) (h : a * b < 2 ^ 63) : lb (x * y) (a * b) := by
  have e : (x.toInt * y.toInt).natAbs ≤ a * b := by rw [Int.natAbs_mul]; exact Nat.mul_le_mul hx hy
  unfold lb
  rw [Int64.toInt_mul, Int.bmod_eq_of_le (by omega) (by omega)]
  exact e
theorem lb_add {x y : Int64} {a b : Nat} (hx : lb x a) (hy : lb y b) (h : a + b < 2 ^ 63) : lb (x + y) (a + b) := by
  unfold lb at hx hy ⊢
  rw [Int64.toInt_add, Int.bmod_eq_of_le (by omega) (by omega)]
  omega
theorem lb_div {x d : Int64} {n : Nat} (hx : lb x n) (h : n < 2 ^ 63) : lb (x / d) n := by
  unfold lb at hx ⊢
  have e := tdiv_le x.toInt d.toInt
  rw [Int64.toInt_div, Int.bmod_eq_of_le (by omega) (by omega)]
  omega
theorem lb_nrm {d : Int64} {f : Nat → Int64} {k n : Nat} (hx : lb (f k) n) (h : n < 2 ^ 63) : lb (nrm d f k) n := by
  unfold nrm
  split
  · exact hx
  · exact lb_div hx h
theorem lb_32 {x : Int32} {n : Nat} (h : x.toInt.natAbs ≤ n) : lb x.toInt64 n := by
  unfold lb; rw [Int32.toInt_toInt64]; exact h
/-- the product with an arm's polynomial of degree at most 2 -/
def c3 (a d : Nat → Int64) (k : Nat) : Int64 := a k * d 0 + (if 1 ≤ k then a (k - 1) * d 1 else 0) + (if 2 ≤ k then a (k - 2) * d 2 else 0)
theorem lb_c3 {a d : Nat → Int64} {B x y z : Nat} (ha : ∀ k, lb (a k) B) (h0 : lb (d 0) x) (h1 : lb (d 1) y) (h2 : lb (d 2) z) (hB : B * (x + y + z) < 2 ^ 63) (k : Nat) : lb (c3 a d k) (B * (x + y + z)) := by
  have e : B * (x + y + z) = B * x + B * y + B * z := by rw [Nat.mul_add, Nat.mul_add]
  rw [e] at hB ⊢
  unfold c3
  refine lb_add (lb_add (lb_mul (ha k) h0 (by omega)) ?_ (by omega)) ?_ hB
  · split
    · exact lb_mul (ha _) h1 (by omega)
    · exact lb_0
  · split
    · exact lb_mul (ha _) h2 (by omega)
    · exact lb_0
theorem c3_zero {a d : Nat → Int64} {t e k : Nat} (ha : ∀ k, t < k → a k = 0) (he : 1 ≤ e) (hd : e < 2 → d 2 = 0) (hk : t + e < k) : c3 a d k = 0 := by
  unfold c3
  rw [ha k (by omega), if_pos (by omega), if_pos (by omega), ha (k - 1) (by omega), Int64.zero_mul, Int64.zero_mul]
  by_cases h : e < 2
  · rw [hd h, Int64.mul_zero]; rfl
  · rw [ha (k - 2) (by omega), Int64.zero_mul]; rfl
/-- degree at most t, numbers at most 198 to the t -/
def St (t : Nat) (a b : Nat → Int64) : Prop := ∀ k, lb (a k) (198 ^ t) ∧ lb (b k) (198 ^ t) ∧ (t < k → a k = 0 ∧ b k = 0)
def apu (x3 x7 x9 : Int64) (j : Nat) : Int64 := if x7 = 0 then (if j = 1 then x3 else 0) else if x3 = 0 then (if j = 0 then x9 else 0) else if j = 1 then x3 * x9 else 0
def apd (x3 x5 x7 x9 : Int64) (j : Nat) : Int64 := if x7 = 0 then (if j = 0 then x5 else 0) else if x3 = 0 then (if j = 1 then x7 else 0) else if j = 0 then x5 * x9 else if j = 2 then x3 * x7 else 0
def sA (u d a b : Nat → Int64) : Nat → Int64 := fun k => c3 a d k + c3 b u k
theorem St_sum {t e : Nat} {a b u d : Nat → Int64} {x y z x' y' z' : Nat} (h : St t a b) (hd0 : lb (d 0) x) (hd1 : lb (d 1) y) (hd2 : lb (d 2) z) (hu0 : lb (u 0) x') (hu1 : lb (u 1) y') (hu2 : lb (u 2) z') (he : 1 ≤ e) (hz : e < 2 → d 2 = 0 ∧ u 2 = 0) (hs : x + y + z + (x' + y' + z') ≤ 198 ^ e) (hte : t + e ≤ 6) : St (t + e) (sA u d a b) (c3 b d) := by
  have p6 : 198 ^ (t + e) ≤ 198 ^ 6 := Nat.pow_le_pow_right (by decide) hte
  have pm : 198 ^ t * (x + y + z + (x' + y' + z')) ≤ 198 ^ (t + e) := by rw [Nat.pow_add]; exact Nat.mul_le_mul_left _ hs
  rw [Nat.mul_add] at pm
  have c6 : 198 ^ 6 < 2 ^ 63 := by decide
  intro k
  have ka := fun k => (h k).1
  have kb := fun k => (h k).2.1
  have kc := lb_c3 kb hd0 hd1 hd2 (by omega) k
  refine ⟨lb_mono (lb_add (lb_c3 ka hd0 hd1 hd2 (by omega) k) (lb_c3 kb hu0 hu1 hu2 (by omega) k) (by omega)) pm, lb_mono kc (by omega), fun hk => ⟨?_, ?_⟩⟩
  · show c3 a d k + c3 b u k = 0
    rw [c3_zero (fun k hk => ((h k).2.2 hk).1) he (fun q => (hz q).1) hk, c3_zero (fun k hk => ((h k).2.2 hk).2) he (fun q => (hz q).2) hk]; rfl
  · exact c3_zero (fun k hk => ((h k).2.2 hk).2) he (fun q => (hz q).1) hk
theorem St_nrm {t : Nat} {a b : Nat → Int64} {D : Int64} (h : St t a b) (ht : t ≤ 6) : St t (nrm D a) (nrm D b) := by
  have p6 : 198 ^ t ≤ 198 ^ 6 := Nat.pow_le_pow_right (by decide) ht
  have c6 : 198 ^ 6 < 2 ^ 63 := by decide
  intro k
  obtain ⟨h1, h2, h3⟩ := h k
  refine ⟨lb_nrm h1 (by omega), lb_nrm h2 (by omega), fun hk => ?_⟩
  obtain ⟨e1, e2⟩ := h3 hk
  have e : ∀ D : Int64, (0 : Int64) / D = 0 := fun D => by simp
  unfold nrm
  rw [e1, e2, e]
  exact ⟨by split <;> rfl, by split <;> rfl⟩
theorem St_swap {t : Nat} {a b : Nat → Int64} (h : St t a b) : St t b a := fun k => ⟨(h k).2.1, (h k).1, fun hk => ⟨((h k).2.2 hk).2, ((h k).2.2 hk).1⟩⟩
theorem St_arm {t : Nat} {a b : Nat → Int64} {u v x y : Int32} (h : St t a b) (h1 : vok u v) (h2 : vok x y) (h3 : ¬ (u = 0 ∧ x = 0)) (ht : t + (v1 u + v1 x) ≤ 6) : St (t + (v1 u + v1 x)) (sA (apu u.toInt64 x.toInt64 y.toInt64) (apd u.toInt64 v.toInt64 x.toInt64 y.toInt64) a b) (c3 b (apd u.toInt64 v.toInt64 x.toInt64 y.toInt64)) := by
  have z64 : (0 : Int32).toInt64 = 0 := rfl
  have l99 : ∀ {p q : Int32}, vok p q → lb p.toInt64 99 ∧ lb q.toInt64 99 := by
    intro p q hv
    rcases hv with ⟨rfl, rfl⟩ | hv
    · exact ⟨lb_0, lb_0⟩
    · exact ⟨lb_32 (by omega), lb_32 (by omega)⟩
  obtain ⟨lu, lv⟩ := l99 h1
  obtain ⟨lx, ly⟩ := l99 h2
  by_cases ex : x = 0
  · have eu : ¬ u = 0 := fun q => h3 ⟨q, ex⟩
    subst ex
    have ee : v1 u + v1 0 = 1 := by unfold v1; rw [if_neg eu]; rfl
    rw [ee] at ht ⊢
    have eu' : apu u.toInt64 (0 : Int32).toInt64 y.toInt64 = fun j => if j = 1 then u.toInt64 else 0 := by funext j; unfold apu; rw [if_pos z64]
    have ed' : apd u.toInt64 v.toInt64 (0 : Int32).toInt64 y.toInt64 = fun j => if j = 0 then v.toInt64 else 0 := by funext j; unfold apd; rw [if_pos z64]
    rw [eu', ed']
    exact St_sum (x := 99) (y := 0) (z := 0) (x' := 0) (y' := 99) (z' := 0) h lv lb_0 lb_0 lb_0 lu lb_0 (Nat.le_refl 1) (fun _ => ⟨rfl, rfl⟩) (by decide) ht
  · have ex64 : ¬ x.toInt64 = 0 := fun q => ex (i64_0.mp q)
    by_cases eu : u = 0
    · subst eu
      have ee : v1 0 + v1 x = 1 := by unfold v1; rw [if_neg ex]; rfl
      rw [ee] at ht ⊢
      have eu' : apu (0 : Int32).toInt64 x.toInt64 y.toInt64 = fun j => if j = 0 then y.toInt64 else 0 := by funext j; unfold apu; rw [if_neg ex64, if_pos z64]
      have ed' : apd (0 : Int32).toInt64 v.toInt64 x.toInt64 y.toInt64 = fun j => if j = 1 then x.toInt64 else 0 := by funext j; unfold apd; rw [if_neg ex64, if_pos z64]
      rw [eu', ed']
      exact St_sum (x := 0) (y := 99) (z := 0) (x' := 99) (y' := 0) (z' := 0) h lb_0 lx lb_0 ly lb_0 lb_0 (Nat.le_refl 1) (fun _ => ⟨rfl, rfl⟩) (by decide) ht
    · have eu64 : ¬ u.toInt64 = 0 := fun q => eu (i64_0.mp q)
      have ee : v1 u + v1 x = 2 := by unfold v1; rw [if_neg ex, if_neg eu]
      rw [ee] at ht ⊢
      have eu' : apu u.toInt64 x.toInt64 y.toInt64 = fun j => if j = 1 then u.toInt64 * y.toInt64 else 0 := by funext j; unfold apu; rw [if_neg ex64, if_neg eu64]
      have ed' : apd u.toInt64 v.toInt64 x.toInt64 y.toInt64 = fun j => if j = 0 then v.toInt64 * y.toInt64 else if j = 2 then u.toInt64 * x.toInt64 else 0 := by funext j; unfold apd; rw [if_neg ex64, if_neg eu64]
      rw [eu', ed']
      exact St_sum (x := 99 * 99) (y := 0) (z := 99 * 99) (x' := 0) (y' := 99 * 99) (z' := 0) h (lb_mul lv ly (by decide)) lb_0 (lb_mul lu lx (by decide)) lb_0 (lb_mul lu ly (by decide)) lb_0 (by decide) (fun q => absurd q (by decide)) (by decide) ht
/-- the numbers of arm k, as the document's fold takes them -/
def y3 (A : Nat → Int32) (k : Nat) : Int32 := if A (5 * k) = 0 then A (5 * k + 1) else A (5 * k + 3)
def y5 (A : Nat → Int32) (k : Nat) : Int32 := if A (5 * k) = 0 then A (5 * k + 2) else A (5 * k + 4)
def y7 (A : Nat → Int32) (k : Nat) : Int32 := if A (5 * k) = 0 then A (5 * k + 3) else A (5 * k + 1)
def y9 (A : Nat → Int32) (k : Nat) : Int32 := if A (5 * k) = 0 then A (5 * k + 4) else A (5 * k + 2)
def au (A : Nat → Int32) (k : Nat) : Nat → Int64 := apu (y3 A k).toInt64 (y7 A k).toInt64 (y9 A k).toInt64
def ad (A : Nat → Int32) (k : Nat) : Nat → Int64 := apd (y3 A k).toInt64 (y5 A k).toInt64 (y7 A k).toInt64 (y9 A k).toInt64
theorem St_au {t k : Nat} {a b : Nat → Int64} {A : Nat → Int32} (h : St t a b) (hA : aok A k) (ht : t + (v1 (A (5 * k + 1)) + v1 (A (5 * k + 3))) ≤ 6) : St (t + (v1 (A (5 * k + 1)) + v1 (A (5 * k + 3)))) (sA (au A k) (ad A k) a b) (c3 b (ad A k)) := by
  obtain ⟨-, h1, h2, h3⟩ := hA
  unfold au ad y3 y5 y7 y9
  by_cases e : A (5 * k) = 0
  · rw [if_pos e, if_pos e, if_pos e, if_pos e]
    exact St_arm h h1 h2 h3 ht
  · rw [if_neg e, if_neg e, if_neg e, if_neg e, Nat.add_comm (v1 (A (5 * k + 1)))]
    exact St_arm h h2 h1 (fun q => h3 ⟨q.2, q.1⟩) (by omega)
abbrev PP := (Nat → Int64) × (Nat → Int64)
def nP (a b : Nat → Int64) : PP := (nrm (dvs a b) a, nrm (dvs a b) b)
def fstep (A : Nat → Int32) (k : Nat) (s : PP) : PP := if A (5 * k) = 1 then nP (c3 s.1 (ad A k)) (sA (au A k) (ad A k) s.2 s.1) else nP (sA (au A k) (ad A k) s.1 s.2) (c3 s.2 (ad A k))
def k0 : Nat → Int64 := fun j => if j = 0 then 1 else 0
def k00 : Nat → Int64 := fun _ => 0
def fstart (A : Nat → Int32) (k : Nat) : PP := if A (5 * k) = 0 then (k00, k0) else (k0, k00)
/-- the fold of m arms, the last i of them done -/
def fo (A : Nat → Int32) (m : Nat) : Nat → PP
  | 0 => fstart A (m - 1)
  | i + 1 => fstep A (m - 1 - i) (fo A m i)
theorem St_nP {t : Nat} {a b : Nat → Int64} (h : St t a b) (ht : t ≤ 6) : St t (nP a b).1 (nP a b).2 := St_nrm (D := dvs a b) h ht
theorem fstep_St {t k : Nat} {A : Nat → Int32} {s : PP} (h : St t s.1 s.2) (hA : aok A k) (ht : t + (v1 (A (5 * k + 1)) + v1 (A (5 * k + 3))) ≤ 6) : St (t + (v1 (A (5 * k + 1)) + v1 (A (5 * k + 3)))) (fstep A k s).1 (fstep A k s).2 := by
  unfold fstep
  by_cases e : A (5 * k) = 1
  · rw [if_pos e]
    exact St_nP (a := c3 s.1 (ad A k)) (b := sA (au A k) (ad A k) s.2 s.1) (St_swap (St_au (St_swap h) hA ht)) ht
  · rw [if_neg e]
    exact St_nP (a := sA (au A k) (ad A k) s.1 s.2) (b := c3 s.2 (ad A k)) (St_au h hA ht) ht
theorem vc_mono {A : Nat → Int32} : ∀ m i, vc A i ≤ vc A (i + m)
  | 0, i => Nat.le_refl _
  | m + 1, i => Nat.le_trans (vc_mono m i) (Nat.le_add_right _ _)
theorem fo_St {A : Nat → Int32} {m : Nat} (ha : ∀ k, k < m → aok A k) (hv : vc A m ≤ 6) : ∀ i, i ≤ m → St (6 - vc A (m - i)) (fo A m i).1 (fo A m i).2
  | 0, _ => by
    have p1 : 1 ≤ 198 ^ (6 - vc A (m - 0)) := Nat.pow_pos (by decide)
    have h0 : ∀ k, lb (k0 k) (198 ^ (6 - vc A (m - 0))) := fun k => by
      unfold k0
      split
      · exact p1
      · exact lb_0
    have h1 : ∀ k, 6 - vc A (m - 0) < k → k0 k = 0 := fun k hk => if_neg (by omega)
    show St _ (fstart A (m - 1)).1 (fstart A (m - 1)).2
    unfold fstart
    split
    · exact fun k => ⟨lb_0, h0 k, fun hk => ⟨rfl, h1 k hk⟩⟩
    · exact fun k => ⟨h0 k, lb_0, fun hk => ⟨h1 k hk, rfl⟩⟩
  | i + 1, hi => by
    have ih := fo_St ha hv i (by omega)
    have e1 : m - i = (m - 1 - i) + 1 := by omega
    have e2 : m - (i + 1) = m - 1 - i := by omega
    have hm : vc A (m - i) ≤ vc A m := by
      have := vc_mono (A := A) i (m - i)
      rwa [show m - i + i = m by omega] at this
    have hv1 : vc A (m - i) = vc A (m - 1 - i) + (v1 (A (5 * (m - 1 - i) + 1)) + v1 (A (5 * (m - 1 - i) + 3))) := by rw [e1]; rfl
    have hA := ha (m - 1 - i) (by omega)
    have et : 6 - vc A (m - (i + 1)) = 6 - vc A (m - i) + (v1 (A (5 * (m - 1 - i) + 1)) + v1 (A (5 * (m - 1 - i) + 3))) := by rw [e2]; omega
    show St _ (fstep A (m - 1 - i) (fo A m i)).1 (fstep A (m - 1 - i) (fo A m i)).2
    rw [et]
    have hfin : 6 - vc A (m - i) + (v1 (A (5 * (m - 1 - i) + 1)) + v1 (A (5 * (m - 1 - i) + 3))) ≤ 6 := by omega
    exact fstep_St ih hA hfin
