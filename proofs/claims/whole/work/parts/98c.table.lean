/-- the 110 fractions of the reference's table, ascending -/
def TL : List (Int × Int) := [(-9, 1), (-8, 1), (-7, 1), (-6, 1), (-5, 1), (-9, 2), (-4, 1), (-7, 2), (-3, 1), (-8, 3), (-5, 2), (-7, 3), (-9, 4), (-2, 1), (-9, 5), (-7, 4), (-5, 3), (-8, 5), (-3, 2), (-7, 5), (-4, 3), (-9, 7), (-5, 4), (-6, 5), (-7, 6), (-8, 7), (-9, 8), (-1, 1), (-8, 9), (-7, 8), (-6, 7), (-5, 6), (-4, 5), (-7, 9), (-3, 4), (-5, 7), (-2, 3), (-5, 8), (-3, 5), (-4, 7), (-5, 9), (-1, 2), (-4, 9), (-3, 7), (-2, 5), (-3, 8), (-1, 3), (-2, 7), (-1, 4), (-2, 9), (-1, 5), (-1, 6), (-1, 7), (-1, 8), (-1, 9), (1, 9), (1, 8), (1, 7), (1, 6), (1, 5), (2, 9), (1, 4), (2, 7), (1, 3), (3, 8), (2, 5), (3, 7), (4, 9), (1, 2), (5, 9), (4, 7), (3, 5), (5, 8), (2, 3), (5, 7), (3, 4), (7, 9), (4, 5), (5, 6), (6, 7), (7, 8), (8, 9), (1, 1), (9, 8), (8, 7), (7, 6), (6, 5), (5, 4), (9, 7), (4, 3), (7, 5), (3, 2), (8, 5), (5, 3), (7, 4), (9, 5), (2, 1), (9, 4), (7, 3), (5, 2), (8, 3), (3, 1), (7, 2), (4, 1), (9, 2), (5, 1), (6, 1), (7, 1), (8, 1), (9, 1)]
def tA (k : Nat) : Int := (TL.getD k (0, 0)).1
def tB (k : Nat) : Int := (TL.getD k (0, 0)).2
def pA (k : Nat) : Int := if k = 0 then -10 else tA (k - 1)
def pB (k : Nat) : Int := if k = 0 then 1 else tB (k - 1)
def ca (x : Nat) : Int := if 81 ≤ x then (((x % 81) / 9 + 1 : Nat) : Int) else -(((x % 81) / 9 + 1 : Nat) : Int)
def cb (x : Nat) : Int := ((x % 9 + 1 : Nat) : Int)
def cst (p q : Int) (st : Int × Int) (x : Nat) : Int × Int := if ca x * q ≤ p * cb x then st else if st.2 = 0 then (ca x, cb x) else if st.1 * cb x ≤ ca x * st.2 then st else (ca x, cb x)
def cnx (p q : Int) : Nat → Int × Int
  | 0 => (0, 0)
  | k + 1 => cst p q (cnx p q k) k
theorem cnx_t : ∀ k, k < 110 → cnx (pA k) (pB k) 162 = (tA k, tB k) := by decide +kernel
theorem cnx_e : (cnx (tA 109) (tB 109) 162).2 = 0 := by decide +kernel
theorem t_ok : ∀ k, k < 110 → (-9 ≤ tA k ∧ tA k ≤ 9 ∧ tA k ≠ 0) ∧ (1 ≤ tB k ∧ tB k ≤ 9) ∧ Nat.gcd (tA k).natAbs (tB k).natAbs = 1 := by decide +kernel
theorem t_up : ∀ k, k < 109 → tA k * tB (k + 1) < tA (k + 1) * tB k := by decide +kernel
def ix (a b : Int) : Nat := TL.idxOf (a, b)
theorem t_all' : ∀ a : Nat, a < 19 → ∀ b : Nat, b < 9 → ¬ a = 9 → Nat.gcd ((a : Int) - 9).natAbs (b + 1) = 1 → ix ((a : Int) - 9) ((b : Int) + 1) < 110 ∧ tA (ix ((a : Int) - 9) ((b : Int) + 1)) = (a : Int) - 9 ∧ tB (ix ((a : Int) - 9) ((b : Int) + 1)) = (b : Int) + 1 := by decide +kernel
theorem t_all {a b : Int} (ha : -9 ≤ a ∧ a ≤ 9) (ha0 : a ≠ 0) (hb : 1 ≤ b ∧ b ≤ 9) (hg : Nat.gcd a.natAbs b.natAbs = 1) : ∃ k, k < 110 ∧ tA k = a ∧ tB k = b := by
  obtain ⟨x, rfl⟩ : ∃ x : Nat, a = (x : Int) - 9 := ⟨(a + 9).toNat, by omega⟩
  obtain ⟨y, rfl⟩ : ∃ y : Nat, b = (y : Int) + 1 := ⟨(b - 1).toNat, by omega⟩
  exact ⟨_, t_all' x (by omega) y (by omega) (by omega) (by rw [show (y : Int) + 1 = ((y + 1 : Nat) : Int) by omega, Int.natAbs_natCast] at hg; exact hg)⟩
