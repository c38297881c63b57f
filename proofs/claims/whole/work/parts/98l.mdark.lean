theorem downs_s {J : HJ} {b : Nat} (hb : (Tm b).2 = 7) : Mo_downs b J = some (va_up J b (va_up (wrk 6 (J b) (fun i => J b (i + 1))) 6 0)) := by
  unfold Mo_downs Mo_downs_0
  have key := up_loop (fun n (S : HJ) y => Mo_downs_2 b n S y) (fun k => va_up J b (wrk k (J b) (fun i => J b (i + 1)))) (some (va_up J b (va_up (wrk 6 (J b) (fun i => J b (i + 1))) 6 0))) 6 (fun n k hk => ?_) (fun n => ?_) 256 0 (by decide) (by decide)
  · rw [wrk_0, va_up_id] at key
    exact key
  · show Mo_downs_2b b (Mo_downs_2 b n) _ (nI k) = _
    unfold Mo_downs_2b
    rw [if_neg (n6 hk), nI_1, gd_of (by rw [hb]; exact inb_nI (by omega) (by decide)), gd_of (by rw [hb]; exact inb_nI (by omega) (by decide)), bd_e, nI_clamp (by omega), nI_clamp (by omega), va_up_at, wrk_ge (by omega), up2_va, wrk_s (g := fun i => J b (i + 1))]
  · show Mo_downs_2b b (Mo_downs_2 b n) _ (nI 6) = _
    unfold Mo_downs_2b
    rw [if_pos (by decide), gd_of (by rw [hb]; decide), bd_e, show (6 : Int32).toNatClampNeg = 6 from rfl, up2_va]
theorem ro01 : Ro 0 1 := ⟨by decide, by decide, by decide⟩
theorem mu_01 {f : Nat → Int} (f0 : f 0 = 0) : Mu 0 1 (fun i => if i < 3 then f (i + 1) else 0) f := by
  refine ⟨by rw [f0, Int.zero_mul], ?_, ?_, ?_, rfl⟩
  · show f 1 = 1 * f 1 + 0 * f 2
    omega
  · show f 2 = 1 * f 2 + 0 * f 3
    omega
  · show f 3 = 1 * f 3
    omega
theorem down_Q {dH e : Nat} {r : Nat → Int64} (h : Qr dH e r) (h0 : r 0 = 0) : Qr dH (e + 1) (va_up (wrk 6 r (fun i => r (i + 1))) 6 0) ∧ Mu 0 1 (ri (va_up (wrk 6 r (fun i => r (i + 1))) 6 0)) (ri r) := by
  have m := mu_01 (f := ri r) (i64_e0.mp h0)
  have row : ∀ i, i < 4 → (va_up (wrk 6 r (fun i => r (i + 1))) 6 0 i).toInt = if i < 3 then ri r (i + 1) else 0 := by
    intro i hi
    rw [va_up_of (by omega), wrk_lt (by omega)]
    by_cases c : i < 3
    · rw [if_pos c]
    · rw [if_neg c]
      obtain rfl : i = 3 := by omega
      exact i64_e0.mp (h.2.1 4 (by decide) (by decide))
  refine ⟨Qr_mu h ro01 m row (fun i q1 q2 => ?_), mu_E' m (fun i hi => (row i hi).symm)⟩
  by_cases c : i = 6
  · subst c; rw [va_up_at]
  · rw [va_up_of c, wrk_lt (by omega)]
    exact h.2.1 (i + 1) (by omega) (by omega)
theorem dk_26 {I : HI} {H : Nat → Int} {dH : Nat} (hd : dH ≤ 3) : ∀ (r n e : Nat) (J : HJ), e + r = 4 → r < n → Qr dH e (J 11) → Rd e H (ri (J 11)) → ∃ (e' : Nat) (J' : HJ), Mo_isDark_26 I N_m 0 n J = Mo_isDark_49 I N_m 0 256 J' 0 ∧ Qr dH e' (J' 11) ∧ Rd e' H (ri (J' 11)) ∧ Vv (ri (J' 11)) 0 1 ≠ 0 ∧ ∀ q, q ≠ 11 → J' q = J q := by
  intro r
  induction r with
  | zero =>
    intro n e J he hn hQ hRd
    have := Qr_e hQ
    omega
  | succ r ih =>
    intro n e J he hn hQ hRd
    obtain ⟨m, rfl⟩ : ∃ m, n = m + 1 := ⟨n - 1, by omega⟩
    have st : Mo_isDark_26 I N_m 0 (m + 1) J = if J 11 0 = 0 then bn1 (Mo_downs 11 J) (fun J5 => Mo_isDark_26 I N_m 0 m J5) else Mo_isDark_49 I N_m 0 256 J 0 := by
      show Mo_isDark_26b I N_m 0 (Mo_isDark_26 I N_m 0 m) J = _
      unfold Mo_isDark_26b
      rw [mv_17, gd_of (show inb (0 : Int32) (Tm 11).2 = true from tm11 (k := 0) (by decide)), mv_17]; rfl
    rw [st]
    by_cases c : J 11 0 = 0
    · obtain ⟨q1, q2⟩ := down_Q hQ c
      rw [if_pos c, downs_s rfl, bn1_s]
      obtain ⟨e', J', c1, c2, c3, c4, c5⟩ := ih m (e + 1) (va_up J 11 (va_up (wrk 6 (J 11) (fun i => J 11 (i + 1))) 6 0)) (by omega) (by omega) (by rw [va_up_at]; exact q1) (by rw [va_up_at]; exact Rd_tr e 1 hRd ⟨0, 1, _, ro01, q2, fun _ _ => rfl⟩)
      exact ⟨e', J', c1, c2, c3, c4, fun q hq => by rw [c5 q hq, va_up_of hq]⟩
    · rw [if_neg c]
      exact ⟨e, J, rfl, hQ, hRd, by rw [V_01]; exact i64_ne.mp c, fun _ _ => rfl⟩
theorem dk_in {I : HI} {H : Nat → Int} {dH k : Nat} {K : HJ → Int32 → Option (HJ × Int32)} (hd : dH ≤ 3) (hT : RT I) (hk : k < 110) : ∀ (r s n e : Nat) (J : HJ), e + r = 4 → s + r ≤ 4 → r + 1 < n → Qr dH e (J 11) → Rd e H (ri (J 11)) → ∃ (e' : Nat) (J' : HJ), Mo_isDark_61 I N_m 0 K n J (nI k) 1 (nI s) = K J' (nI (k + 1)) ∧ Qr dH e' (J' 11) ∧ Rd e' H (ri (J' 11)) ∧ Vv (ri (J' 11)) (tA k) (tB k) ≠ 0 ∧ Ot (tA k) (tB k) (ri (J 11)) (ri (J' 11)) ∧ ∀ q, q ≠ 11 → q ≠ 12 → J' q = J q := by
  intro r
  induction r with
  | zero =>
    intro s n e J he hs hn hQ hRd
    have := Qr_e hQ
    omega
  | succ r ih =>
    intro s n e J he hs hn hQ hRd
    obtain ⟨m, rfl⟩ : ∃ m, n = m + 1 + 1 := ⟨n - 2, by omega⟩
    have tk := t_ok k hk
    have hR := (tRo hk).1
    have st : Mo_isDark_61 I N_m 0 K (m + 1 + 1) J (nI k) 1 (nI s) = bn2 (Mo_takesOut N_m 0 (0 - oi (tA k)) (oi (tB k)) J) (fun J7 r8 => Mo_isDark_61 I N_m 0 K (m + 1) J7 (nI k) r8 (nI (s + 1))) := by
      show Mo_isDark_61b I N_m 0 K (Mo_isDark_61 I N_m 0 K (m + 1)) J (nI k) 1 (nI s) = _
      unfold Mo_isDark_61b
      rw [if_neg (show ¬ (7 : Int32) ≤ nI s from nI_ge (a := s) (b := 7) (by omega) (by decide)), if_neg (by decide), mv_19, gd_of (tm13 (by omega)), mv_20, gd_of (tm14 (by omega)), nI_clamp (by omega), (hT.2 k hk).1, (hT.2 k hk).2, iz_l (by omega), iz_l (by omega), nI_1]
    obtain ⟨t1, t2⟩ := takesOut_s hR hd hQ
    rw [st]
    by_cases hv : Vv (ri (J 11)) (tA k) (tB k) = 0
    · obtain ⟨J1, c1, c2, c3, c4⟩ := t2 hv
      rw [c1, bn2_s]
      obtain ⟨e', J', d1, d2, d3, d4, d5, d6⟩ := ih (s + 1) (m + 1) (e + 1) J1 (by omega) (by omega) (by omega) c2 (Rd_tr e 1 hRd ⟨_, _, _, hR, c3, fun _ _ => rfl⟩)
      exact ⟨e', J', d1, d2, d3, d4, Ot_tr (mu_Ot hR c3) d5, fun q q1 q2 => (d6 q q1 q2).trans (c4 q q1 q2)⟩
    · rw [t1 hv, bn2_s]
      refine ⟨e, J, ?_, hQ, hRd, hv, Ot_id, fun _ _ _ => rfl⟩
      show Mo_isDark_61b I N_m 0 K (Mo_isDark_61 I N_m 0 K m) J (nI k) 0 (nI (s + 1)) = _
      unfold Mo_isDark_61b Mo_isDark_98
      rw [if_neg (show ¬ (7 : Int32) ≤ nI (s + 1) from nI_ge (a := s + 1) (b := 7) (by omega) (by decide)), if_pos rfl, nI_1]
theorem dk_out {I : HI} {H : Nat → Int} {dH : Nat} (hd : dH ≤ 3) (hT : RT I) : ∀ (r k n e : Nat) (J : HJ), k + r = 110 → r < n → Qr dH e (J 11) → Rd e H (ri (J 11)) → Vv (ri (J 11)) 0 1 ≠ 0 → (∀ x, x < k → Vv (ri (J 11)) (tA x) (tB x) ≠ 0) → ∃ (e' : Nat) (J' : HJ) (R : Nat → Int), Mo_isDark_49 I N_m 0 n J (nI k) = some (J', b2i (decide (¬ (R 1 = 0 ∧ R 2 = 0 ∧ R 3 = 0)))) ∧ Rd e' H R ∧ Irr R ∧ ∀ q, q ≠ 11 → q ≠ 12 → J' q = J q := by
  intro r
  induction r with
  | zero =>
    intro k n e J hk hn hQ hRd h0 hx
    obtain rfl : k = 110 := by omega
    obtain ⟨m, rfl⟩ : ∃ m, n = m + 1 := ⟨n - 1, by omega⟩
    obtain ⟨t, ht, t4, te⟩ := Qr_top hQ
    refine ⟨e, J, ri (J 11), ?_, hRd, fun a b hr => ?_, fun _ _ _ => rfl⟩
    · show Mo_isDark_49b I N_m 0 (Mo_isDark_49 I N_m 0 m) J (nI 110) = _
      unfold Mo_isDark_49b
      rw [hT.1, if_pos (by decide), mv_17, Mo_top_s rfl, bn1_s, dgb_tp ht]
      by_cases c : t = 0
      · subst c
        rw [if_pos (by decide), decide_eq_false (fun q => q ⟨i64_e0.mp (ht.2.2 1 (by decide) (by decide)), i64_e0.mp (ht.2.2 2 (by decide) (by decide)), i64_e0.mp (ht.2.2 3 (by decide) (by decide))⟩)]; rfl
      · have nq : ¬ ((J 11 1).toInt = 0 ∧ (J 11 2).toInt = 0 ∧ (J 11 3).toInt = 0) := fun q => by
          apply ht.2.1
          apply i64_e0.mpr
          rcases (show t = 1 ∨ t = 2 ∨ t = 3 by omega) with rfl | rfl | rfl
          · exact q.1
          · exact q.2.1
          · exact q.2.2
        rw [if_neg (nI_nle (by omega) (by omega)), show decide (¬ (ri (J 11) 1 = 0 ∧ ri (J 11) 2 = 0 ∧ ri (J 11) 3 = 0)) = true from decide_eq_true nq]; rfl
    · by_cases a0 : a = 0
      · subst a0
        have := hr.2.2
        rw [show (0 : Int).natAbs = 0 from rfl, Nat.gcd_zero_left] at this
        obtain rfl : b = 1 := by have := hr.1; omega
        exact h0
      · obtain ⟨x, h1, rfl, rfl⟩ := t_all hr.2.1 a0 hr.1 hr.2.2
        exact hx x h1
  | succ r ih =>
    intro k n e J hk hn hQ hRd h0 hx
    obtain ⟨m, rfl⟩ : ∃ m, n = m + 1 := ⟨n - 1, by omega⟩
    have k110 : k < 110 := by omega
    have he := Qr_e hQ
    obtain ⟨e1, J1, c1, c2, c3, c4, c5, c6⟩ := dk_in (H := H) (K := Mo_isDark_49 I N_m 0 m) hd hT k110 (4 - e) 0 256 e J (by omega) (by omega) (by omega) hQ hRd
    obtain ⟨e', J', R, d1, d2, d3, d4⟩ := ih (k + 1) m e1 J1 (by omega) (by omega) c2 c3 (fun q => h0 ((c5 0 1 ro01 (fun z => (tRo k110).2 z.1.symm)).1.mpr q)) (fun x hx' => by
      by_cases ex : x = k
      · subst ex; exact c4
      · have x110 : x < 110 := by omega
        refine fun q => hx x (by omega) ((c5 _ _ (tRo x110).1 (fun z => ?_)).1.mpr q)
        have l1 := (t_le x x110 k k110).mp (by rw [z.1, z.2]; exact Int.le_refl _)
        have l2 := (t_le k k110 x x110).mp (by rw [z.1, z.2]; exact Int.le_refl _)
        omega)
    refine ⟨e', J', R, ?_, d2, d3, fun q q1 q2 => (d4 q q1 q2).trans (c6 q q1 q2)⟩
    rw [← d1, ← c1]
    show Mo_isDark_49b I N_m 0 (Mo_isDark_49 I N_m 0 m) J (nI k) = _
    unfold Mo_isDark_49b
    rw [hT.1, if_neg (nI_ge (by omega) (by decide))]
    rfl
theorem tm10 {k : Nat} (h : k < 7) : inb (nI k) (Tm 10).2 = true := inb_nI h (by decide)
/-- the reference's dark test -/
theorem mdark {I : HI} {J : HJ} {dH : Nat} (hd : dH ≤ 3) (hT : RT I) (hQ : Qr dH 0 (J 10)) : ∃ (n : Nat) (J' : HJ) (R : Nat → Int), Mo_isDark I N_m 0 J = some (J', b2i (decide (¬ (R 1 = 0 ∧ R 2 = 0 ∧ R 3 = 0)))) ∧ Rd n (ri (J 10)) R ∧ Irr R ∧ ∀ q, q ≠ 11 → q ≠ 12 → J' q = J q := by
  obtain ⟨J1, hJ1⟩ : ∃ J1 : HJ, J1 = va_up J 11 (wrk 7 (J 11) (J 10)) := ⟨_, rfl⟩
  have cp : Mo_isDark I N_m 0 J = Mo_isDark_26 I N_m 0 256 J1 := by
    unfold Mo_isDark Mo_isDark_0
    have key := up_loop (fun n (S : HJ) y => Mo_isDark_2 I N_m 0 n S y) (fun k => va_up J 11 (wrk k (J 11) (J 10))) (Mo_isDark_26 I N_m 0 256 (va_up J 11 (wrk 7 (J 11) (J 10)))) 7 (fun n k hk => ?_) (fun n => ?_) 256 0 (by decide) (by decide)
    · rw [wrk_0, va_up_id] at key
      rw [hJ1]
      exact key
    · show Mo_isDark_2b I N_m 0 (Mo_isDark_2 I N_m 0 n) _ (nI k) = _
      unfold Mo_isDark_2b
      rw [if_neg (n7 hk), mv_17, mv_16, gd_of (tm10 hk), gd_of (tm11 hk), bd_e, nI_clamp (by omega), va_up_of (show (10 : Nat) ≠ 11 by decide), up2_va, wrk_s, nI_1]
    · show Mo_isDark_2b I N_m 0 (Mo_isDark_2 I N_m 0 n) _ (nI 7) = _
      unfold Mo_isDark_2b
      rw [if_pos (by decide)]
  have r11 : ∀ i, i < 7 → J1 11 i = J 10 i := fun i hi => by rw [hJ1, va_up_at, wrk_lt hi]
  have Q1 : Qr dH 0 (J1 11) := ⟨fun i hi => by rw [r11 i (by omega)]; exact hQ.1 i hi, fun i h1 h2 => by rw [r11 i h2]; exact hQ.2.1 i h1 h2, fun i hi h => by rw [r11 i (by omega)]; exact hQ.2.2.1 i hi h, by obtain ⟨i, hi, h⟩ := hQ.2.2.2; exact ⟨i, hi, by rw [r11 i (by omega)]; exact h⟩⟩
  have e4 : E4 (ri (J 10)) (ri (J1 11)) := fun i hi => by show _ = (J1 11 i).toInt; rw [r11 i (by omega)]
  obtain ⟨e', J2, c1, c2, c3, c4, c5⟩ := dk_26 (I := I) (H := ri (J 10)) hd 4 256 0 J1 (by decide) (by decide) Q1 e4
  obtain ⟨e2, J', R, d1, d2, d3, d4⟩ := dk_out (H := ri (J 10)) hd hT 110 0 256 e' J2 (by decide) (by decide) c2 c3 c4 (fun x hx => by omega)
  refine ⟨e2, J', R, ?_, d2, d3, fun q q1 q2 => by rw [d4 q q1 q2, c5 q q1, hJ1, va_up_of q1]⟩
  rw [cp, c1]
  exact d1
