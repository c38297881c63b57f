/-- a loop that counts up to B: each step and its end give the whole -/
theorem up_loop {S R : Type} (f : Nat → S → Int32 → Option R) (st : Nat → S) (out : Option R) (B : Nat) (hs : ∀ n k, k < B → f (n + 1) (st k) (nI k) = f n (st (k + 1)) (nI (k + 1))) (hx : ∀ n, f (n + 1) (st B) (nI B) = out) : ∀ n k, k ≤ B → B - k < n → f n (st k) (nI k) = out := by
  intro n
  induction n with
  | zero => intro k h1 h2; omega
  | succ n ih =>
    intro k h1 h2
    by_cases h : k = B
    · subst h; exact hx n
    · rw [hs n k (by omega)]
      exact ih (k + 1) (by omega) (by omega)
theorem up_loop0 {R : Type} (f : Nat → Int32 → Option R) (out : Option R) (B : Nat) (hs : ∀ n k, k < B → f (n + 1) (nI k) = f n (nI (k + 1))) (hx : ∀ n, f (n + 1) (nI B) = out) : ∀ n k, k ≤ B → B - k < n → f n (nI k) = out := by
  intro n
  induction n with
  | zero => intro k h1 h2; omega
  | succ n ih =>
    intro k h1 h2
    by_cases h : k = B
    · subst h; exact hx n
    · rw [hs n k (by omega)]
      exact ih (k + 1) (by omega) (by omega)
/-- the number of a power, 0 outside -/
def pat (f : Nat → Int64) (p : Int32) : Int64 := if p < 0 then 0 else if 7 ≤ p then 0 else f p.toNatClampNeg
theorem n7 {k : Nat} (h : k < 7) : ¬ (7 : Int32) ≤ nI k := nI_ge (a := k) (b := 7) h (by decide)
theorem pat_nI {f : Nat → Int64} {k : Nat} (h : k < 7) : pat f (nI k) = f k := by
  unfold pat
  rw [if_neg (nI_pos (by omega)), if_neg (n7 h), nI_clamp (by omega)]
theorem pat_hi {f : Nat → Int64} {k : Nat} (h : 7 ≤ k) (h2 : k < 2 ^ 31) : pat f (nI k) = 0 := by
  unfold pat
  rw [if_neg (nI_pos h2), if_pos (show (7 : Int32) ≤ nI k from nI_le h h2)]
theorem pat_neg {f : Nat → Int64} {p : Int32} (h : p < 0) : pat f p = 0 := if_pos h
theorem ix7 {p : Int32} (h : ¬ p < 0) (h2 : ¬ (7 : Int32) ≤ p) : inb p 7 = true := by
  obtain ⟨j, hj, rfl⟩ := nI_of h
  have : j < 7 := by
    rcases Nat.lt_or_ge j 7 with q | q
    · exact q
    · exact absurd (nI_le q hj) h2
  exact inb_nI this (by decide)
theorem Po_at_s {a : Nat} {w : Nat → Bool} {J : HJ} {p : Int32} (h : isPo a) : Po_at J (nn w) a p = some (pat (J (a + 1)) p) := by
  unfold Po_at Po_at_0 pat
  by_cases h1 : p < 0
  · rw [if_pos h1, if_pos h1]
  · rw [if_neg h1, if_neg h1]
    by_cases h2 : (7 : Int32) ≤ p
    · rw [if_pos h2, if_pos h2]
    · rw [if_neg h2, if_neg h2, po_ra h, po_ln h, gd_of (ix7 h1 h2)]
/-- a polynomial with one number put -/
def pput (f : Nat → Int64) (p : Int32) (v : Int64) : Nat → Int64 := if p < 0 then f else if 7 ≤ p then f else va_up f p.toNatClampNeg v
theorem pput_nI {f : Nat → Int64} {k : Nat} {v : Int64} (h : k < 7) : pput f (nI k) v = va_up f k v := by
  unfold pput
  rw [if_neg (nI_pos (by omega)), if_neg (n7 h), nI_clamp (by omega)]
theorem va_up_id {α : Type} {f : Nat → α} {r : Nat} : va_up f r (f r) = f := by
  funext a
  by_cases e : a = r
  · subst e; rw [va_up_at]
  · rw [va_up_of e]
theorem Po_put_s {a : Nat} {w : Nat → Bool} {J : HJ} {p : Int32} {v : Int64} (h : isPo a) : Po_put (nn w) a p v J = some (va_up J (a + 1) (pput (J (a + 1)) p v)) := by
  unfold Po_put Po_put_0 pput
  by_cases h1 : p < 0
  · rw [if_pos h1, if_pos h1, va_up_id]
  · rw [if_neg h1, if_neg h1]
    by_cases h2 : (7 : Int32) ≤ p
    · rw [if_pos h2, if_pos h2, va_up_id]
    · rw [if_neg h2, if_neg h2, po_ra h, po_ln h, gd_of (ix7 h1 h2)]
      rfl
theorem Po_clear_s {a : Nat} {w : Nat → Bool} {J : HJ} (h : isPo a) : Po_clear (nn w) a J = some (va_up J (a + 1) (wrk 7 (J (a + 1)) (fun _ => 0))) := by
  have key := up_loop (fun n J x => Po_clear_2 (nn w) a n J x) (fun k => va_up J (a + 1) (wrk k (J (a + 1)) (fun _ => 0))) (some (va_up J (a + 1) (wrk 7 (J (a + 1)) (fun _ => 0)))) 7 (fun n k hk => ?_) (fun n => ?_) 256 0 (by decide) (by decide)
  · rw [wrk_0, va_up_id] at key
    exact key
  · show Po_clear_2b (nn w) a (Po_clear_2 (nn w) a n) _ (nI k) = _
    unfold Po_clear_2b
    rw [if_neg (n7 hk), po_ra h, po_ln h, gd_of (inb_nI hk (by decide)), bd_e, nI_clamp (by omega), up2_va, nI_1, ← wrk_s]
  · show Po_clear_2b (nn w) a (Po_clear_2 (nn w) a n) _ (nI 7) = _
    unfold Po_clear_2b
    rw [if_pos (by decide)]
theorem Po_load_s {a b : Nat} {w : Nat → Bool} {J : HJ} (h : isPo a) (h2 : isPo b) (hab : b ≠ a) : Po_load (nn w) a b J = some (va_up J (a + 1) (wrk 7 (J (a + 1)) (J (b + 1)))) := by
  have key := up_loop (fun n J x => Po_load_2 (nn w) a b n J x) (fun k => va_up J (a + 1) (wrk k (J (a + 1)) (J (b + 1)))) (some (va_up J (a + 1) (wrk 7 (J (a + 1)) (J (b + 1))))) 7 (fun n k hk => ?_) (fun n => ?_) 256 0 (by decide) (by decide)
  · rw [wrk_0, va_up_id] at key
    exact key
  · show Po_load_2b (nn w) a b (Po_load_2 (nn w) a b n) _ (nI k) = _
    unfold Po_load_2b
    rw [if_neg (n7 hk), po_ra h, po_ra h2, po_ln h, po_ln h2, gd_of (inb_nI hk (by decide)), gd_of (inb_nI hk (by decide)), bd_e, nI_clamp (by omega), va_up_of (show b + 1 ≠ a + 1 by omega), up2_va, nI_1, ← wrk_s]
  · show Po_load_2b (nn w) a b (Po_load_2 (nn w) a b n) _ (nI 7) = _
    unfold Po_load_2b
    rw [if_pos (by decide)]
theorem Po_loadEveryOther_s {a b : Nat} {w : Nat → Bool} {J : HJ} {s : Int32} (h : isPo a) (h2 : isPo b) (hab : b ≠ a) : Po_loadEveryOther (nn w) a b s J = some (va_up J (a + 1) (wrk 7 (J (a + 1)) (fun i => pat (J (b + 1)) (s + 2 * nI i)))) := by
  have key := up_loop (fun n J x => Po_loadEveryOther_2 (nn w) a b s n J x) (fun k => va_up J (a + 1) (wrk k (J (a + 1)) (fun i => pat (J (b + 1)) (s + 2 * nI i)))) (some (va_up J (a + 1) (wrk 7 (J (a + 1)) (fun i => pat (J (b + 1)) (s + 2 * nI i))))) 7 (fun n k hk => ?_) (fun n => ?_) 256 0 (by decide) (by decide)
  · rw [wrk_0, va_up_id] at key
    exact key
  · show Po_loadEveryOther_2b (nn w) a b s (Po_loadEveryOther_2 (nn w) a b s n) _ (nI k) = _
    unfold Po_loadEveryOther_2b
    rw [if_neg (n7 hk), po_ra h, Po_at_s h2, bn1_s, po_ln h, gd_of (inb_nI hk (by decide)), bd_e, nI_clamp (by omega), va_up_of (show b + 1 ≠ a + 1 by omega), up2_va, nI_1, ← wrk_s]
  · show Po_loadEveryOther_2b (nn w) a b s (Po_loadEveryOther_2 (nn w) a b s n) _ (nI 7) = _
    unfold Po_loadEveryOther_2b
    rw [if_pos (by decide)]
theorem Po_multiplyBy_s {a : Nat} {w : Nat → Bool} {J : HJ} {c : Int64} (h : isPo a) : Po_multiplyBy (nn w) a c J = some (va_up J (a + 1) (wrk 7 (J (a + 1)) (fun i => J (a + 1) i * c))) := by
  have key := up_loop (fun n J x => Po_multiplyBy_2 (nn w) a c n J x) (fun k => va_up J (a + 1) (wrk k (J (a + 1)) (fun i => J (a + 1) i * c))) (some (va_up J (a + 1) (wrk 7 (J (a + 1)) (fun i => J (a + 1) i * c)))) 7 (fun n k hk => ?_) (fun n => ?_) 256 0 (by decide) (by decide)
  · rw [wrk_0, va_up_id] at key
    exact key
  · show Po_multiplyBy_2b (nn w) a c (Po_multiplyBy_2 (nn w) a c n) _ (nI k) = _
    unfold Po_multiplyBy_2b
    rw [if_neg (n7 hk), po_ra h, po_ln h, gd_of (inb_nI hk (by decide)), gd_of (inb_nI hk (by decide)), bd_e, nI_clamp (by omega), va_up_at, wrk_ge (Nat.le_refl k), up2_va, nI_1, ← wrk_s]
  · show Po_multiplyBy_2b (nn w) a c (Po_multiplyBy_2 (nn w) a c n) _ (nI 7) = _
    unfold Po_multiplyBy_2b
    rw [if_pos (by decide)]
theorem Po_divideBy_s {a : Nat} {w : Nat → Bool} {J : HJ} {c : Int64} (h : isPo a) : Po_divideBy (nn w) a c J = some (if c = 0 then J else va_up J (a + 1) (wrk 7 (J (a + 1)) (fun i => J (a + 1) i / c))) := by
  by_cases hc : c = 0
  · rw [if_pos hc]
    show Po_divideBy_2b (nn w) a c (Po_divideBy_2 (nn w) a c 255) J 0 = _
    unfold Po_divideBy_2b
    rw [if_neg (by decide), if_pos hc]
  · rw [if_neg hc]
    have key := up_loop (fun n J x => Po_divideBy_2 (nn w) a c n J x) (fun k => va_up J (a + 1) (wrk k (J (a + 1)) (fun i => J (a + 1) i / c))) (some (va_up J (a + 1) (wrk 7 (J (a + 1)) (fun i => J (a + 1) i / c)))) 7 (fun n k hk => ?_) (fun n => ?_) 256 0 (by decide) (by decide)
    · rw [wrk_0, va_up_id] at key
      exact key
    · show Po_divideBy_2b (nn w) a c (Po_divideBy_2 (nn w) a c n) _ (nI k) = _
      unfold Po_divideBy_2b
      rw [if_neg (n7 hk), if_neg hc, po_ra h, po_ln h, gd_of (inb_nI hk (by decide)), gd_of (decide_eq_true hc), gd_of (inb_nI hk (by decide)), bd_e, nI_clamp (by omega), va_up_at, wrk_ge (Nat.le_refl k), up2_va, nI_1, ← wrk_s]
    · show Po_divideBy_2b (nn w) a c (Po_divideBy_2 (nn w) a c n) _ (nI 7) = _
      unfold Po_divideBy_2b
      rw [if_pos (by decide)]
/-- the greatest power below k whose number isn't 0 (z: which are 0), else -1 -/
def dgb : Nat → (Nat → Bool) → Int32
  | 0, _ => -1
  | k + 1, z => if z k = true then dgb k z else nI k
/-- the least power from k on, m of them, whose number isn't 0, else -1 -/
def lwb : Nat → Nat → (Nat → Bool) → Int32
  | 0, _, _ => -1
  | m + 1, k, z => if z k = true then lwb m (k + 1) z else nI k
def zl (f : Nat → Int64) (k : Nat) : Bool := decide (f k = 0)
theorem zl_t {f : Nat → Int64} {k : Nat} (h : f k = 0) : zl f k = true := decide_eq_true h
theorem zl_f {f : Nat → Int64} {k : Nat} (h : ¬ f k = 0) : ¬ zl f k = true := fun q => h (of_decide_eq_true q)
theorem Po_degree_l {a : Nat} {w : Nat → Bool} {J : HJ} (h : isPo a) : ∀ k n, k ≤ 7 → k < n → Po_degree_3 J (nn w) a n (nI k + (-1)) = some (dgb k (zl (J (a + 1)))) := by
  intro k
  induction k with
  | zero =>
    intro n h1 h2
    obtain ⟨n, rfl⟩ : ∃ m, n = m + 1 := ⟨n - 1, by omega⟩
    show Po_degree_3b J (nn w) a (Po_degree_3 J (nn w) a n) _ = _
    unfold Po_degree_3b
    rw [if_pos (by decide)]
    rfl
  | succ k ih =>
    intro n h1 h2
    obtain ⟨n, rfl⟩ : ∃ m, n = m + 1 := ⟨n - 1, by omega⟩
    rw [pk_m1]
    show Po_degree_3b J (nn w) a (Po_degree_3 J (nn w) a n) _ = _
    unfold Po_degree_3b
    rw [if_neg (nI_pos (by omega)), po_ra h, po_ln h, gd_of (inb_nI (by omega) (by decide)), nI_clamp (by omega)]
    show _ = some (if zl (J (a + 1)) k = true then dgb k (zl (J (a + 1))) else nI k)
    by_cases hz : J (a + 1) k = 0
    · rw [if_pos hz, if_pos (zl_t hz), ih n (by omega) (by omega)]
    · rw [if_neg hz, if_neg (zl_f hz)]
theorem Po_degree_s {a : Nat} {w : Nat → Bool} {J : HJ} (h : isPo a) : Po_degree J (nn w) a = some (dgb 7 (zl (J (a + 1)))) := Po_degree_l h 7 256 (by decide) (by decide)
theorem Po_leastPower_l {a : Nat} {w : Nat → Bool} {J : HJ} (h : isPo a) : ∀ m k n, m + k = 7 → m < n → Po_leastPower_2 J (nn w) a n (nI k) = some (lwb m k (zl (J (a + 1)))) := by
  intro m
  induction m with
  | zero =>
    intro k n h1 h2
    obtain ⟨n, rfl⟩ : ∃ m, n = m + 1 := ⟨n - 1, by omega⟩
    have : k = 7 := by omega
    subst this
    show Po_leastPower_2b J (nn w) a (Po_leastPower_2 J (nn w) a n) _ = _
    unfold Po_leastPower_2b
    rw [if_pos (by decide)]
    rfl
  | succ m ih =>
    intro k n h1 h2
    obtain ⟨n, rfl⟩ : ∃ m, n = m + 1 := ⟨n - 1, by omega⟩
    show Po_leastPower_2b J (nn w) a (Po_leastPower_2 J (nn w) a n) _ = _
    unfold Po_leastPower_2b
    rw [if_neg (n7 (by omega)), po_ra h, po_ln h, gd_of (inb_nI (by omega) (by decide)), nI_clamp (by omega)]
    show _ = some (if zl (J (a + 1)) k = true then lwb m (k + 1) (zl (J (a + 1))) else nI k)
    by_cases hz : J (a + 1) k = 0
    · rw [if_pos hz, if_pos (zl_t hz), nI_1, ih (k + 1) n (by omega) (by omega)]
    · rw [if_neg hz, if_neg (zl_f hz)]
theorem Po_leastPower_s {a : Nat} {w : Nat → Bool} {J : HJ} (h : isPo a) : Po_leastPower J (nn w) a = some (lwb 7 0 (zl (J (a + 1)))) := Po_leastPower_l h 7 0 256 (by decide) (by decide)
/-- powers of one parity alone (par is 0 or 1), not all 0 -/
def pev (z : Nat → Bool) : Bool := z 1 && z 3 && z 5 && !(z 0 && z 2 && z 4 && z 6)
def pod (z : Nat → Bool) : Bool := z 0 && z 2 && z 4 && z 6 && !(z 1 && z 3 && z 5)
def b2i (b : Bool) : Int32 := if b = true then 1 else 0
/-- some number from k on isn't 0, and none is of the other parity (s: there was one before) -/
def prk (par : Nat) (z : Nat → Bool) : Nat → Nat → Bool → Bool
  | 0, _, s => s
  | m + 1, k, s => if z k = true then prk par z m (k + 1) s else if k % 2 = par then prk par z m (k + 1) true else false
theorem Po_isOfParity_l {a : Nat} {w : Nat → Bool} {J : HJ} {par : Nat} (hp : par < 2) (h : isPo a) : ∀ m k n s, m + k = 7 → m < n → Po_isOfParity_4 J (nn w) a (nI par) n (b2i s) (nI k) = some (b2i (prk par (zl (J (a + 1))) m k s)) := by
  intro m
  induction m with
  | zero =>
    intro k n s h1 h2
    obtain ⟨n, rfl⟩ : ∃ m, n = m + 1 := ⟨n - 1, by omega⟩
    have : k = 7 := by omega
    subst this
    show Po_isOfParity_4b J (nn w) a (nI par) (Po_isOfParity_4 J (nn w) a (nI par) n) _ _ = _
    unfold Po_isOfParity_4b
    rw [if_pos (by decide), gd_of (by cases s <;> rfl)]
    rfl
  | succ m ih =>
    intro k n s h1 h2
    obtain ⟨n, rfl⟩ : ∃ m, n = m + 1 := ⟨n - 1, by omega⟩
    show Po_isOfParity_4b J (nn w) a (nI par) (Po_isOfParity_4 J (nn w) a (nI par) n) _ _ = _
    unfold Po_isOfParity_4b Po_isOfParity_32
    rw [if_neg (n7 (by omega)), po_ra h, po_ln h, gd_of (inb_nI (by omega) (by decide)), nI_clamp (by omega)]
    show _ = some (b2i (if zl (J (a + 1)) k = true then prk par (zl (J (a + 1))) m (k + 1) s else if k % 2 = par then prk par (zl (J (a + 1))) m (k + 1) true else false))
    by_cases hz : J (a + 1) k = 0
    · rw [if_pos hz, if_pos (zl_t hz), nI_1, ih (k + 1) n s (by omega) (by omega)]
    · rw [if_neg hz, if_neg (zl_f hz), show (2 : Int32) = nI 2 from rfl, pk_rem (by omega) (by decide) (by decide)]
      by_cases hk : k % 2 = par
      · rw [if_pos (by rw [hk]), if_pos hk, nI_1, show (1 : Int32) = b2i true from rfl, ih (k + 1) n true (by omega) (by omega)]
      · rw [if_neg (fun q => hk ((nI_eq (by omega) (by omega)).mp q)), if_neg hk]
        rfl
theorem prk_0 (z : Nat → Bool) : prk 0 z 7 0 false = pev z := by
  simp only [prk, pev]
  cases z 0 <;> cases z 1 <;> cases z 2 <;> cases z 3 <;> cases z 4 <;> cases z 5 <;> cases z 6 <;> rfl
theorem prk_1 (z : Nat → Bool) : prk 1 z 7 0 false = pod z := by
  simp only [prk, pod]
  cases z 0 <;> cases z 1 <;> cases z 2 <;> cases z 3 <;> cases z 4 <;> cases z 5 <;> cases z 6 <;> rfl
theorem Po_isOfParity_0s {a : Nat} {w : Nat → Bool} {J : HJ} (h : isPo a) : Po_isOfParity J (nn w) a 0 = some (b2i (pev (zl (J (a + 1))))) := by
  have := Po_isOfParity_l (w := w) (J := J) (par := 0) (by decide) h 7 0 256 false (by decide) (by decide)
  rw [prk_0] at this
  exact this
theorem Po_isOfParity_1s {a : Nat} {w : Nat → Bool} {J : HJ} (h : isPo a) : Po_isOfParity J (nn w) a 1 = some (b2i (pod (zl (J (a + 1))))) := by
  have := Po_isOfParity_l (w := w) (J := J) (par := 1) (by decide) h 7 0 256 false (by decide) (by decide)
  rw [prk_1] at this
  exact this
