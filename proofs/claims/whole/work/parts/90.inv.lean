/-- one step of ways 0 and 1: the class's pair stays the reference's pair times its scale -/
theorem inv_sc {P Q Q1 p q q1 r sU sD sU' sD' u d pl ql c G A B q' : Int} (hG : G ≠ 0) (hc : c ≠ 0) (hU : sU ≠ 0) (i1 : P * (sD * q) = Q * (sU * p)) (pr : Q * q1 = Q1 * q) (hr : r = ql * p - pl * q1) (hu : u * (sD * ql) = d * (sU * pl)) (hA : A * G = d * Q) (hB : B * G = d * P - u * Q1) (hq : q' * c = r) (hs : sU' * (sU * c) = sD' * (sD * ql)) : A * (sD' * q') = B * (sU' * q) := by
  have hne : G * (c * sU) ≠ 0 := Int.mul_ne_zero hG (Int.mul_ne_zero hc hU)
  apply Int.eq_of_mul_eq_mul_right hne
  have e1 : A * (sD' * q') * (G * (c * sU)) = (A * G) * sD' * (q' * c) * sU := by grind
  have e2 : B * (sU' * q) * (G * (c * sU)) = (B * G) * q * (sU' * (sU * c)) := by grind
  rw [e1, e2, hA, hB, hq, hs, hr]
  have e3 : d * Q * sD' * (ql * p - pl * q1) * sU = sD' * (d * ql * (Q * (sU * p)) - (d * (sU * pl)) * (Q * q1)) := by grind
  have e4 : (d * P - u * Q1) * q * (sD' * (sD * ql)) = sD' * (d * ql * (P * (sD * q)) - (u * (sD * ql)) * (Q1 * q)) := by grind
  rw [e3, e4, i1, pr, hu]
/-- the class's lower row and the reference's are in one ratio -/
theorem inv_pr {P p Qi Qj qi qj sU sD : Int} (hp : sU * p ≠ 0) (hi : P * (sD * qi) = Qi * (sU * p)) (hj : P * (sD * qj) = Qj * (sU * p)) : Qi * qj = Qj * qi := by
  apply Int.eq_of_mul_eq_mul_right hp
  have e1 : Qi * qj * (sU * p) = (Qi * (sU * p)) * qj := by grind
  have e2 : Qj * qi * (sU * p) = (Qj * (sU * p)) * qi := by grind
  rw [e1, e2, ← hi, ← hj]
  grind
/-- same zeros -/
theorem inv_z {P Q p q sU sD : Int} (hU : sU ≠ 0) (hD : sD ≠ 0) (hQ : Q ≠ 0) (hq : q ≠ 0) (i : P * (sD * q) = Q * (sU * p)) : P = 0 ↔ p = 0 := by
  constructor
  · rintro rfl
    rw [Int.zero_mul] at i
    rcases Int.mul_eq_zero.mp i.symm with h | h
    · exact absurd h hQ
    · rcases Int.mul_eq_zero.mp h with h | h
      · exact absurd h hU
      · exact h
  · rintro rfl
    rw [Int.mul_zero, Int.mul_zero] at i
    rcases Int.mul_eq_zero.mp i with h | h
    · exact h
    · rcases Int.mul_eq_zero.mp h with h | h
      · exact absurd h hD
      · exact absurd h hq
