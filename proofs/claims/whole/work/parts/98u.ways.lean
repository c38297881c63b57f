/-- from the rows in X on -/
theorem poles {x : Nat} {w : Nat → Bool} {I : HI} {J : HJ} {I2 : HI} {J2 J0 K : HJ} (hxx : x < 2) (c1 : Un_loadInX (nn w) 30 J0 = some J) (h9 : ∀ i, i < 7 → K 9 i = J (ab w 44 + 1) i ∧ K 10 i = J (be w 44 + 1) i) (hD : LD (J (ab w 44 + 1)) (J (be w 44 + 1))) (hRT : RT I2) (hc : I 31 1 = 0) : ∃ (I' : HI) (J' : HJ) (I2' : HI) (J2' : HJ) (r : Int32), Un_divideByPoles_17 30 1 (nI x) I J0 (nn w) = some (I', J', nn w, r) ∧ Mo_byRoots_91 N_m 0 (nI (2 + x)) I2 K = some (I2', J2', r) ∧ (∀ a, a < 30 ∨ 55 < a → I' a = I a) ∧ (∀ a, a < 50 ∨ 52 < a → J' a = J a) ∧ (∀ a, a ≠ 0 → a ≠ 6 → I2' a = I2 a) ∧ (∀ k, k ≠ 8 → I2' 0 k = I2 0 k) ∧ (∀ a, a ≠ 0 → a < 11 ∨ 15 < a → J2' a = K a) ∧ (0 ≤ r → ∃ m, RLm m I' I2') := by
  have q44 := ab_be (w := w) (p := 44)
  obtain ⟨l1, l2, l3, l4, l5, l6⟩ := id hD
  obtain ⟨ig, hig, hg0⟩ := l3
  obtain ⟨ih, hih, hh0⟩ := l4
  obtain ⟨tG, hG⟩ := top_ex (f := J (ab w 44 + 1)) 7 (Nat.le_refl 7) (fun i a b => by omega) ⟨ig, by omega, hg0⟩
  obtain ⟨tH, hH⟩ := top_ex (f := J (be w 44 + 1)) 7 (Nat.le_refl 7) (fun i a b => by omega) ⟨ih, by omega, hh0⟩
  have g4 : tG < 4 := Classical.byContradiction fun q => hG.2.1 (l2 tG (by omega) hG.1).1
  have t4 : tH < 4 := Classical.byContradiction fun q => hH.2.1 (l2 tH (by omega) hH.1).2
  have bb : ∀ i, i < 7 → lb (J (ab w 44 + 1) i) 9 ∧ lb (J (be w 44 + 1) i) 9 := fun i hi => by
    by_cases c : i < 4
    · exact l1 i c
    · rw [(l2 i (by omega) hi).1, (l2 i (by omega) hi).2]; exact ⟨lb_0, lb_0⟩
  have QH : Qr tH 0 (J (be w 44 + 1)) := ⟨fun i hi => (l1 i hi).2, fun i q1 q2 => (l2 i q1 q2).2, fun i hi q => hH.2.2 i (by omega) (by omega), ⟨ih, hih, hh0⟩⟩
  have QK : Qr tH 0 (K 10) := ⟨fun i hi => by rw [(h9 i (by omega)).2]; exact QH.1 i hi, fun i q1 q2 => by rw [(h9 i q2).2]; exact QH.2.1 i q1 q2, fun i hi q => by rw [(h9 i (by omega)).2]; exact QH.2.2.1 i hi q, ⟨ih, hih, by rw [(h9 ih (by omega)).2]; exact hh0⟩⟩
  obtain ⟨I3, J4, f1, f2, f3, f4⟩ := fr_s (w := w) (dH := tH) (I := I) (J := J) (by omega) QH
  obtain ⟨nD, KD, RD, d1, d2, d3, d4⟩ := mdark (I := I2) (J := K) (dH := tH) (by omega) hRT QK
  obtain ⟨e, n, ks, T, a1, a2, a3, a4, a5, a6, a7, a8⟩ := f2
  have ps171 : ∀ a b, Ro a b → ps a b < 171 := fun a b r => by have := r.1; have := r.2.1; unfold ps; omega
  obtain ⟨nC', RC', b1, b2, b3⟩ := cdark a1 a2 (fun a b r a0 => (a3 a b r a0).1 (ps171 a b r))
  have eK : E4 (ri (K 10)) (ri (J (be w 44 + 1))) := fun i hi => by show (K 10 i).toInt = _; rw [(h9 i (by omega)).2]
  have same := (nf_uni nC' b1 b2 (Rd_E nD eK d2) d3).2
  have dk : (dgb 7 (zl (J4 50)) = lwb 7 0 (zl (J4 50))) ↔ (RD 1 = 0 ∧ RD 2 = 0 ∧ RD 3 = 0) := by
    rw [b3]
    constructor
    · intro q
      exact ⟨by rw [← same 1 (by decide)]; exact q 1 (by decide) (by decide), by rw [← same 2 (by decide)]; exact q 2 (by decide) (by decide), by rw [← same 3 (by decide)]; exact q 3 (by decide) (by decide)⟩
    · intro q i q1 q2
      rw [same i q2]
      rcases (show i = 1 ∨ i = 2 ∨ i = 3 by omega) with rfl | rfl | rfl
      · exact q.1
      · exact q.2.1
      · exact q.2.2
  have i3f : ∀ a, a < 30 ∨ 55 < a → I3 a = I a := fun a h => f4 a (by omega) (by omega) (by omega) (by omega)
  have cl : Un_divideByPoles_17 30 1 (nI x) I J0 (nn w) = if dgb 7 (zl (J4 50)) = lwb 7 0 (zl (J4 50)) then bn3 (Un_poleAtGreatest (nn w) 30 (nI x) I3 J4) (fun I13 J14 r15 => if r15 = 0 then bn3 (Un_poleAtZero (nn w) 30 (nI x) I13 J14) (fun I18 J19 r20 => Un_divideByPoles_61 30 1 (nI x) I18 J19 (nn w) r20) else Un_divideByPoles_61 30 1 (nI x) I13 J14 (nn w) r15) else some (I3, J4, nn w, -6) := by
    unfold Un_divideByPoles_17
    rw [c1, bn1_s, f1, bn2_s, nv_30_3, Po_degree_s po_49, bn1_s, nv_30_3, Po_leastPower_s po_49, bn1_s]
  have mo : Mo_byRoots_91 N_m 0 (nI (2 + x)) I2 K = if b2i (decide (¬ (RD 1 = 0 ∧ RD 2 = 0 ∧ RD 3 = 0))) = 0 then bn3 (Mo_ends N_m 0 (nI (2 + x)) (up2 I2 0 8 0) KD) (fun I6 J7 r8 => bn1 (Mo_slopes N_m 0 J7) (fun J10 => Mo_byRoots_123 N_m 0 (nI (2 + x)) 256 I6 J10 r8 2 0)) else some (I2, KD, -6) := by
    unfold Mo_byRoots_91
    rw [d1, bn2_s, bd_e]
  rw [cl, mo]
  by_cases dark : dgb 7 (zl (J4 50)) = lwb 7 0 (zl (J4 50))
  · have nd : decide (¬ (RD 1 = 0 ∧ RD 2 = 0 ∧ RD 3 = 0)) = false := decide_eq_false (fun q => q (dk.mp dark))
    rw [if_pos dark, nd, if_pos b2i_f]
    have jG : J4 (ab w 44 + 1) = J (ab w 44 + 1) := f3 _ (by omega)
    have jH : J4 (be w 44 + 1) = J (be w 44 + 1) := f3 _ (by omega)
    have k9 : ∀ i, i < 7 → KD 9 i = J4 (ab w 44 + 1) i ∧ KD 10 i = J4 (be w 44 + 1) i := fun i hi => by rw [d4 9 (by decide) (by decide), d4 10 (by decide) (by decide), jG, jH]; exact h9 i hi
    have L0 : RLm 0 I3 (up2 I2 0 8 0) := ⟨by decide, by rw [f4 31 (by decide) (by decide) (by decide) (by decide)]; exact hc, by rw [up2_at, va_up_at]; rfl, fun k hk => by omega, fun k hk => by omega, Nat.zero_le _⟩
    obtain ⟨Ia, Ja, I2a, J2a, ra, e1, e2, e3, e4, e5⟩ := ends_1 (x := x) (tG := tG) (tH := tH) (w := w) (I := I3) (J := J4) (I2 := up2 I2 0 8 0) (J2 := KD) hxx (by rw [jG]; exact hG) (by rw [jH]; exact hH) k9 (by rw [jG, jH]; exact bb) L0
    rw [e1, bn3_s, e2]
    obtain ⟨p1, p2, p3, p4, p5⟩ := id e3
    have fin : ∀ (Ib : HI) (Jb : HJ) (I2b : HI) (J2b : HJ) (rb : Int32), fP I3 Ib J4 Jb (up2 I2 0 8 0) I2b KD J2b → (rb = 0 → ∃ m', RLm m' Ib I2b ∧ vc (I2b 6) m' + 2 * n ≤ 6) → (rb = 0 ∨ rb < 0) → ∃ (I' : HI) (J' : HJ) (I2' : HI) (J2' : HJ) (r : Int32), Un_divideByPoles_61 30 1 (nI x) Ib Jb (nn w) rb = some (I', J', nn w, r) ∧ bn1 (Mo_slopes N_m 0 J2b) (fun J10 => Mo_byRoots_123 N_m 0 (nI (2 + x)) 256 I2b J10 rb 2 0) = some (I2', J2', r) ∧ (∀ a, a < 30 ∨ 55 < a → I' a = I a) ∧ (∀ a, a < 50 ∨ 52 < a → J' a = J a) ∧ (∀ a, a ≠ 0 → a ≠ 6 → I2' a = I2 a) ∧ (∀ k, k ≠ 8 → I2' 0 k = I2 0 k) ∧ (∀ a, a ≠ 0 → a < 11 ∨ 15 < a → J2' a = K a) ∧ (0 ≤ r → ∃ m, RLm m I' I2') := by
      intro Ib Jb I2b J2b rb hf hm hr
      obtain ⟨s1, s2, s3⟩ := slopes_s (J := J2b)
      obtain ⟨q1, q2, q3, q4, q5⟩ := id hf
      rw [s2, bn1_s]
      obtain ⟨s4, s5⟩ := s3
      have base : ∀ (I' : HI) (J' : HJ) (I2' : HI) (J2' : HJ), fP Ib I' Jb J' I2b I2' s1 J2' → (∀ a, a < 30 ∨ 55 < a → I' a = I a) ∧ (∀ a, a < 50 ∨ 52 < a → J' a = J a) ∧ (∀ a, a ≠ 0 → a ≠ 6 → I2' a = I2 a) ∧ (∀ k, k ≠ 8 → I2' 0 k = I2 0 k) ∧ (∀ a, a ≠ 0 → a < 11 ∨ 15 < a → J2' a = K a) := by
        intro I' J' I2' J2' hf2
        obtain ⟨v1', v2, v3, v4, v5⟩ := hf2
        exact ⟨fun a h => by rw [v1' a (by omega), q1 a (by omega), i3f a h], fun a h => by rw [v2 a (by omega) (by omega) (by omega), q2 a (by omega) (by omega) (by omega), f3 a (by omega)], fun a h h' => by rw [v3 a h h', q3 a h h', up2_of h], fun k h => by rw [v4 k h, q4 k h, up2_at, va_up_of h], fun a h h' => by rw [v5 a h, s5 a (by omega), q5 a h, d4 a (by omega) (by omega)]⟩
      by_cases z : rb = 0
      · subst z
        obtain ⟨m', L1, L2⟩ := hm rfl
        have RTb : RT I2b := ⟨by rw [q4 21 (by decide), up2_at, va_up_of (by decide)]; exact hRT.1, fun y hy => by rw [q3 13 (by decide) (by decide), q3 14 (by decide) (by decide), up2_of (by decide), up2_of (by decide)]; exact hRT.2 y hy⟩
        obtain ⟨I', J', I2', J2', res, g1, g2, g3, g4'⟩ := lj (x := x) (n := n) (tG := tG) (tH := tH) (w := w) (ks := ks) (T := T) (Gr := J (ab w 44 + 1)) (Hr := J (be w 44 + 1)) hxx (by have := Qr_e a1; omega) (fun i hi => (a6 i hi).1) a7 hD hG hH (fun y hy => (a8 y hy).trans ⟨fun q => q.1, fun q => ⟨q, ps171 _ _ (tRo hy).1⟩⟩) (fun i hi => (a6 i hi).2.2) 110 0 0 256 256 m' Ib Jb I2b s1 (by decide) (Nat.zero_le _) (by have := Qr_e a1; omega) (by decide) (fun j hj => by omega) (fun j _ _ => Nat.zero_le _) (by rw [q2 _ (by omega) (by omega) (by omega)]; exact jG) (by rw [q2 _ (by omega) (by omega) (by omega)]; exact jH) (fun i hi => by rw [s5 9 (by decide), s5 10 (by decide), q5 9 (by decide), q5 10 (by decide), (k9 i hi).1, (k9 i hi).2, jG, jH]; exact ⟨rfl, rfl⟩) (fun i hi => by rw [s4 i hi, s5 10 (by decide)]) (fun i hi => by
          have := (a6 i hi).2.1
          exact ⟨by rw [q1 53 (by decide)]; exact this.1, by rw [q1 54 (by decide)]; exact this.2.1, by rw [q1 55 (by decide)]; exact this.2.2⟩) (by rw [q1 30 (by decide)]; exact a5) RTb L1 (by omega)
        obtain ⟨o1, o2, o3, o4, o5⟩ := base I' J' I2' J2' g3
        exact ⟨I', J', I2', J2', res, g1, g2, o1, o2, o3, o4, o5, g4'⟩
      · have neg : ¬ 0 ≤ rb := by
          rcases hr with q | q
          · exact absurd q z
          · exact Int32.not_le.mpr q
        obtain ⟨o1, o2, o3, o4, o5⟩ := base Ib Jb I2b s1 fP_id
        refine ⟨Ib, Jb, I2b, s1, rb, ?_, ?_, o1, o2, o3, o4, o5, fun q => absurd q neg⟩
        · show Un_divideByPoles_64b 30 1 (nI x) (Un_divideByPoles_64 30 1 (nI x) 255) Ib Jb (nn w) rb 0 = _
          unfold Un_divideByPoles_64b Un_divideByPoles_91
          rw [if_neg z, if_neg z]
          by_cases c : Ib 30 9 ≤ 0
          · rw [if_pos c]
          · rw [if_neg c]
        · show Mo_byRoots_123b N_m 0 (nI (2 + x)) (Mo_byRoots_123 N_m 0 (nI (2 + x)) 255) I2b s1 rb 2 0 = _
          unfold Mo_byRoots_123b Mo_byRoots_180
          rw [if_neg z, if_neg z]
          by_cases c : I2b 0 21 ≤ 0
          · rw [if_pos c]
          · rw [if_neg c]
    have eH := Qr_e a1
    by_cases z : ra = 0
    · subst z
      rw [if_pos rfl]
      obtain ⟨m, m1, m2, m3, m4⟩ := e4 rfl
      have ja : Ja (ab w 44 + 1) = J4 (ab w 44 + 1) := p2 _ (by omega) (by omega) (by omega)
      have jb : Ja (be w 44 + 1) = J4 (be w 44 + 1) := p2 _ (by omega) (by omega) (by omega)
      obtain ⟨Ib, Jb, I2b, J2b, rb, g1, g2, g3, g5, g6⟩ := ends_2 (x := x) (m := m) (w := w) (I := Ia) (J := Ja) (I2 := I2a) (J2 := J2a) hxx m1 (fun i hi => by rw [p5 9 (by decide), p5 10 (by decide), ja, jb]; exact k9 i hi) (by rw [ja, jb, jG, jH]; exact bb) m2 m3
      rw [g1, bn3_s, g2, bn3_s]
      refine fin Ib Jb I2b J2b rb (fP_tr e3 g3) (fun q => ?_) g6
      obtain ⟨m', n1, n2, n3⟩ := g5 q
      refine ⟨m', n1, ?_⟩
      rw [n2]
      rw [ja, jG] at n3
      by_cases t3 : tH = 3
      · have m0 : m ≠ 1 := fun y => by have := m4 y; omega
        have g00 : J (ab w 44 + 1) 0 = 0 := l5 (by rw [← t3]; exact hH.2.1)
        rcases n3 with h | h
        · omega
        · exact absurd g00 h.2
      · rcases n3 with h | h
        · omega
        · have := h.1; omega
    · rw [if_neg z]
      have r84 : Mo_ends_84 N_m 0 (nI (2 + x)) I2a J2a ra = some (I2a, J2a, ra) := by
        unfold Mo_ends_84
        rw [if_neg z]
      rw [r84, bn3_s]
      exact fin Ia Ja I2a J2a ra e3 (fun q => absurd q z) e5
  · have nd : decide (¬ (RD 1 = 0 ∧ RD 2 = 0 ∧ RD 3 = 0)) = true := by
      have nq : ¬ (RD 1 = 0 ∧ RD 2 = 0 ∧ RD 3 = 0) := fun q => dark (dk.mpr q)
      exact decide_eq_true nq
    rw [if_neg dark, nd, if_neg b2i_t]
    exact ⟨I3, J4, I2, KD, -6, rfl, rfl, i3f, fun a h => f3 a (by omega), fun _ _ _ => rfl, fun _ _ => rfl, fun a _ h => d4 a (by omega) (by omega), fun q => absurd q (by decide)⟩
theorem lawf_sym {a b : Nat → Bool} : lawf a b = lawf b a := by
  unfold lawf
  cases pev a <;> cases pod a <;> cases pev b <;> cases pod b <;> rfl
theorem way_23 {x : Nat} (hxx : x < 2) : wayS (2 + x) := by
  intro w I J I2 J2 hW hC hl
  have q1 := ab_be (w := w) (p := 1)
  have q39 := ab_be (w := w) (p := 39)
  obtain ⟨J5, hJ5⟩ : ∃ J5 : HJ, J5 = va_up (va_up J (ab w 39 + 1) (wrk 7 (J (ab w 39 + 1)) (J (ab w 1 + 1)))) (be w 39 + 1) (wrk 7 (J (be w 39 + 1)) (J (be w 1 + 1))) := ⟨_, rfl⟩
  have rA : ∀ i, i < 7 → J5 (ab w 39 + 1) i = (I2 4 i).toInt64 := fun i hi => by
    rw [hJ5, va_up_of (by omega), va_up_at, wrk_lt hi]; exact hW.1 i hi
  have rB : ∀ i, i < 7 → J5 (be w 39 + 1) i = (I2 4 (7 + i)).toInt64 := fun i hi => by
    rw [hJ5, va_up_at, wrk_lt hi]; exact hW.2.1 i hi
  have jf : ∀ r, r ≠ 41 → r ≠ 43 → J5 r = J r := fun r r1 r2 => by rw [hJ5, va_up_of (by omega), va_up_of (by omega)]
  obtain ⟨I1, i1, i2, i3, i4⟩ := cands_s (I := I2) hC
  have i44 : I1 4 = I2 4 := i3 4 (by decide) (by decide) (by decide)
  obtain ⟨w1, hw1⟩ : ∃ w1 : Nat → Bool, w1 = if x = 0 then w else va_up w 39 (!(w 39)) := ⟨_, rfl⟩
  have w1f : ∀ a, a ≠ 39 → w1 a = w a := fun a ha => by
    rw [hw1]
    by_cases c : x = 0
    · rw [if_pos c]
    · rw [if_neg c]; exact va_up_of ha
  have hP : (∀ i, i < 7 → J5 (ab w1 39 + 1) i = (I1 4 (7 * x + i)).toInt64) ∧ ∀ i, i < 7 → J5 (be w1 39 + 1) i = (I1 4 (7 * (1 - x) + i)).toInt64 := by
    rw [hw1, i44]
    rcases (show x = 0 ∨ x = 1 by omega) with rfl | rfl
    · rw [if_pos rfl]
      exact ⟨fun i hi => by rw [rA i hi, show 7 * 0 + i = i by omega], fun i hi => by rw [rB i hi]⟩
    · rw [if_neg (by decide), ab_swap, be_swap]
      exact ⟨fun i hi => by rw [rB i hi], fun i hi => by rw [rA i hi, show 7 * (1 - 1) + i = i by omega]⟩
  have hl' : lawf (zi (I1 4) x) (zi (I1 4) (1 - x)) = true := by
    rw [i44]
    rcases (show x = 0 ∨ x = 1 by omega) with rfl | rfl
    · exact hl
    · rw [lawf_sym]; exact hl
  obtain ⟨J6, K, c1, c2, c3, c4, c5, c6⟩ := loads (x := x) (w := w1) (I := I1) (J := J5) (J2 := J2) (p1 := nI (2 + x)) hxx hP.1 hP.2 (fun k hk => by rw [i44]; exact hW.2.2 k hk) hl'
  obtain ⟨I', J', I2', J2', r, d1, d2, d3, d4, d5, d6, d7, d8⟩ := poles (x := x) (w := w1) (I := up2 I 31 1 0) (J := J6) (I2 := I1) (J2 := J2) (J0 := J5) (K := K) hxx c1 c3 c4 i2 (by rw [up2_at, va_up_at])
  have cls : (if 2 ≤ 2 + x then Un_divideByPoles 30 1 (nI (2 + x - 2)) I J (nn w) else Un_divideOn 30 1 (nI (1 - (2 + x))) I J (nn w)) = some (I', J', nn w1, r) := by
    rw [if_pos (by omega), show 2 + x - 2 = x by omega]
    unfold Un_divideByPoles Un_divideByPoles_0 Un_begin Un_begin_0 La_clear La_clear_0
    rw [nv_30_0, bd_e, bn1_s, nv_30_1, Pa_load_d pa_39 pa_1 (Or.inl (by decide)), bn1_s, bn2_s, ← hJ5]
    rcases (show x = 0 ∨ x = 1 by omega) with rfl | rfl
    · rw [if_pos rfl] at hw1
      subst hw1
      rw [if_neg (by decide)]
      exact d1
    · rw [if_neg (by decide)] at hw1
      rw [if_pos (by decide), nv_30_1, Pa_swap_s pa_39, bn1_s, ← hw1]
      exact d1
  have ref : Mo_byRoots N_m 0 (nI (2 + x)) I2 J2 = some (I2', J2', r) := by
    unfold Mo_byRoots Mo_byRoots_0
    rw [i1, bn1_s]
    rcases (show x = 0 ∨ x = 1 by omega) with rfl | rfl
    · rw [if_pos (by decide)]
      exact c2.trans d2
    · rw [if_neg (by decide)]
      exact c2.trans d2
  refine ⟨w1, I', J', I2', J2', r, cls, by rw [if_pos (by omega)]; exact ref, ⟨⟨w1f 1 (by decide), w1f 15 (by decide)⟩, fun a h => by rw [d3 a h, up2_of (by omega)], fun a h => by rw [d4 a (by omega), c5 a (by omega) (by omega), jf a (by omega) (by omega)], fun a h1 h2 h3 h4 => by rw [d5 a h1 h2, i3 a h1 h3 h4], fun k h1 h2 => by rw [d6 k h1, i4 k h2], fun a h0 h => by rw [d7 a h0 (by omega), c6 a (by omega) (by omega)], ?_⟩, d8⟩
  have RT' : RT I2' := ⟨by rw [d6 21 (by decide)]; exact i2.1, fun y hy => by rw [d5 13 (by decide) (by decide), d5 14 (by decide) (by decide)]; exact i2.2 y hy⟩
  exact RT_RC RT'
theorem way_2 : wayS 2 := way_23 (x := 0) (by decide)
theorem way_3 : wayS 3 := way_23 (x := 1) (by decide)
