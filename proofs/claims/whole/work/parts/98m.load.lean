/-- the class goes over to X -/
theorem cload {w : Nat → Bool} {J : HJ} {G H : Nat → Int64} {s0 : Int32} (hG : ∀ j, j < 14 → pat (J (ab w 39 + 1)) (s0 + 2 * nI j) = G j) (hH : ∀ j, j < 14 → pat (J (be w 39 + 1)) (s0 + 1 + 2 * nI j) = H j) (zG : ∀ j, 4 ≤ j → G j = 0) (zH : ∀ j, 4 ≤ j → H j = 0) (nG : ∃ j, ¬ G j = 0) (nH : ∃ j, ¬ H j = 0) : ∃ (J' : HJ) (v : Nat), Un_loadInX_19 (nn w) 30 J s0 = some J' ∧ v < 4 ∧ (∀ i, i < 7 → J' (ab w 44 + 1) i = G (v + i) ∧ J' (be w 44 + 1) i = H (v + i)) ∧ (∀ i, i < v → G i = 0 ∧ H i = 0) ∧ ¬ (G v = 0 ∧ H v = 0) ∧ ∀ r, r ≠ 46 → r ≠ 48 → J' r = J r := by
  have q39 := ab_be (w := w) (p := 39)
  have q44 := ab_be (w := w) (p := 44)
  have A39 := isPa_ab pa_39 w
  have B39 := isPa_be pa_39 w
  have A44 := isPa_ab pa_44 w
  have B44 := isPa_be pa_44 w
  obtain ⟨J1, hJ1⟩ : ∃ J1 : HJ, J1 = va_up (va_up J (ab w 44 + 1) (wrk 7 (J (ab w 44 + 1)) (fun i => pat (J (ab w 39 + 1)) (s0 + 2 * nI i)))) (be w 44 + 1) (wrk 7 (J (be w 44 + 1)) (fun i => pat (J (be w 39 + 1)) (s0 + 1 + 2 * nI i))) := ⟨_, rfl⟩
  have rG : ∀ i, i < 7 → J1 (ab w 44 + 1) i = G i := fun i hi => by rw [hJ1, va_up_of (by omega), va_up_at, wrk_lt hi, hG i (by omega)]
  have rH : ∀ i, i < 7 → J1 (be w 44 + 1) i = H i := fun i hi => by rw [hJ1, va_up_at, wrk_lt hi, hH i (by omega)]
  have lo : ∀ (F : Nat → Int64) (r : Nat → Int64), (∀ j, 4 ≤ j → F j = 0) → (∃ j, ¬ F j = 0) → (∀ i, i < 7 → r i = F i) → ∃ l, l < 4 ∧ lwb 7 0 (zl r) = nI l ∧ ¬ F l = 0 ∧ ∀ i, i < l → F i = 0 := by
    intro F r hz ⟨j, hj⟩ hr
    have j4 : j < 4 := Classical.byContradiction fun q => hj (hz j (by omega))
    obtain ⟨l, l1, l2, l3⟩ := low_ex (f := r) 7 0 (fun i hi => by omega) ⟨j, by omega, by rw [hr j (by omega)]; exact hj⟩
    have l4 : l < 4 := Classical.byContradiction fun q => l2 (by rw [hr l (by omega)]; exact hz l (by omega))
    exact ⟨l, l4, lwb_low (t := l) 7 0 (by omega) (by omega) l2 (fun i _ hi => l3 i hi), by rw [← hr l (by omega)]; exact l2, fun i hi => by rw [← hr i (by omega)]; exact l3 i hi⟩
  obtain ⟨lg, g1, g2, g3, g4⟩ := lo G _ zG nG rG
  obtain ⟨lh, h1, h2, h3, h4⟩ := lo H _ zH nH rH
  obtain ⟨v, hv⟩ : ∃ v, v = if lh < lg then lh else lg := ⟨_, rfl⟩
  have vle : v ≤ lg ∧ v ≤ lh := by
    by_cases c : lh < lg
    · rw [if_pos c] at hv; omega
    · rw [if_neg c] at hv; omega
  have vor : v = lg ∨ v = lh := by
    by_cases c : lh < lg
    · rw [if_pos c] at hv; exact Or.inr hv
    · rw [if_neg c] at hv; exact Or.inl hv
  have vI : (if nI lh < nI lg then nI lh else nI lg) = nI v := by
    by_cases c : lh < lg
    · rw [if_pos c] at hv; rw [if_pos ((nI_ltI (by omega) (by omega)).mpr c), hv]
    · rw [if_neg c] at hv; rw [if_neg (fun q => c ((nI_ltI (by omega) (by omega)).mp q)), hv]
  have pz : ∀ i, i < v → G i = 0 ∧ H i = 0 := fun i hi => ⟨g4 i (by omega), h4 i (by omega)⟩
  have pn : ¬ (G v = 0 ∧ H v = 0) := fun q => by
    rcases vor with e | e
    · exact g3 (by rw [← e]; exact q.1)
    · exact h3 (by rw [← e]; exact q.2)
  have st : Un_loadInX_19 (nn w) 30 J s0 = if nI v ≤ 0 then some J1 else some (va_up (va_up J1 (ab w 44 + 1) (wrk 7 (J1 (ab w 44 + 1)) (fun i => pat (J1 (ab w 39 + 1)) (s0 + 2 * nI v + 2 * nI i)))) (be w 44 + 1) (wrk 7 (J1 (be w 44 + 1)) (fun i => pat (J1 (be w 39 + 1)) (s0 + 1 + 2 * nI v + 2 * nI i)))) := by
    unfold Un_loadInX_19
    rw [nv_30_2, pa_0 pa_44, nv_30_1, pa_0 pa_39, Po_loadEveryOther_s A44 A39 (by omega), bn1_s, nv_30_2, pa_1' pa_44, nv_30_1, pa_1' pa_39, Po_loadEveryOther_s B44 B39 (by omega), bn1_s, va_up_of (show be w 44 + 1 ≠ ab w 44 + 1 by omega), va_up_of (show be w 39 + 1 ≠ ab w 44 + 1 by omega), ← hJ1, nv_30_2, pa_0 pa_44, Po_leastPower_s A44, bn1_s, nv_30_2, pa_1' pa_44, Po_leastPower_s B44, bn1_s, bd_e, g2, h2, vI]
    by_cases c : nI v ≤ 0
    · rw [if_pos c, if_pos c]
    · rw [if_neg c, if_neg c, nv_30_2, pa_0 pa_44, nv_30_1, pa_0 pa_39, Po_loadEveryOther_s A44 A39 (by omega), bn1_s, nv_30_2, pa_1' pa_44, nv_30_1, pa_1' pa_39, Po_loadEveryOther_s B44 B39 (by omega), bn1_s, va_up_of (show be w 44 + 1 ≠ ab w 44 + 1 by omega), va_up_of (show be w 39 + 1 ≠ ab w 44 + 1 by omega)]
  have j39 : J1 (ab w 39 + 1) = J (ab w 39 + 1) := by rw [hJ1, va_up_of (by omega), va_up_of (by omega)]
  have k39 : J1 (be w 39 + 1) = J (be w 39 + 1) := by rw [hJ1, va_up_of (by omega), va_up_of (by omega)]
  have jf : ∀ r, r ≠ 46 → r ≠ 48 → J1 r = J r := fun r r1 r2 => by rw [hJ1, va_up_of (by omega), va_up_of (by omega)]
  rw [st]
  by_cases c : v = 0
  · rw [if_pos (by rw [c]; decide)]
    refine ⟨J1, v, rfl, by omega, fun i hi => ?_, pz, pn, jf⟩
    rw [c, Nat.zero_add]; exact ⟨rG i hi, rH i hi⟩
  · rw [if_neg (nI_nle (by omega) (by omega))]
    refine ⟨_, v, rfl, by omega, fun i hi => ⟨?_, ?_⟩, pz, pn, fun r r1 r2 => by rw [va_up_of (by omega), va_up_of (by omega)]; exact jf r r1 r2⟩
    · rw [va_up_of (by omega), va_up_at, wrk_lt hi, j39, ← hG (v + i) (by omega)]
      congr 1
      rw [← nI_add]
      generalize nI v = a
      generalize nI i = b
      grind
    · rw [va_up_at, wrk_lt hi, k39, ← hH (v + i) (by omega)]
      congr 1
      rw [← nI_add]
      generalize nI v = a
      generalize nI i = b
      grind
theorem tm9 {k : Nat} (h : k < 7) : inb (nI k) (Tm 9).2 = true := inb_nI h (by decide)
/-- the reference divides both by X as often as it goes -/
theorem mload {I : HI} {G H : Nat → Int64} {p1 : Int32} (zG : ∀ j, 4 ≤ j → G j = 0) (zH : ∀ j, 4 ≤ j → H j = 0) (nG : ∃ j, ¬ G j = 0) : ∀ (r v n : Nat) (J : HJ), v + r = 4 → r < n → (∀ i, i < 7 → J 9 i = G (v + i) ∧ J 10 i = H (v + i)) → (∀ i, i < v → G i = 0 ∧ H i = 0) → ∃ (J' : HJ) (u : Nat), Mo_byRoots_52 N_m 0 p1 n I J = Mo_byRoots_91 N_m 0 p1 I J' ∧ u < 4 ∧ (∀ i, i < 7 → J' 9 i = G (u + i) ∧ J' 10 i = H (u + i)) ∧ (∀ i, i < u → G i = 0 ∧ H i = 0) ∧ ¬ (G u = 0 ∧ H u = 0) ∧ ∀ q, q ≠ 9 → q ≠ 10 → J' q = J q := by
  intro r
  induction r with
  | zero =>
    intro v n J hv hn hJ hz
    obtain ⟨j, hj⟩ := nG
    exfalso
    by_cases c : j < 4
    · exact hj (hz j (by omega)).1
    · exact hj (zG j (by omega))
  | succ r ih =>
    intro v n J hv hn hJ hz
    obtain ⟨m, rfl⟩ : ∃ m, n = m + 1 := ⟨n - 1, by omega⟩
    have j9 := (hJ 0 (by decide)).1
    have j10 := (hJ 0 (by decide)).2
    rw [Nat.add_zero] at j9 j10
    have st : Mo_byRoots_52 N_m 0 p1 (m + 1) I J = if J 9 0 = 0 then (if J 10 0 = 0 then bn1 (Mo_downs 9 J) (fun J8 => bn1 (Mo_downs 10 J8) (fun J11 => Mo_byRoots_52 N_m 0 p1 m I J11)) else Mo_byRoots_91 N_m 0 p1 I J) else Mo_byRoots_91 N_m 0 p1 I J := by
      show Mo_byRoots_52b N_m 0 p1 (Mo_byRoots_52 N_m 0 p1 m) I J = _
      unfold Mo_byRoots_52b
      rw [mv_15, gd_of (show inb (0 : Int32) (Tm 9).2 = true from tm9 (k := 0) (by decide)), mv_16, gd_of (show inb (0 : Int32) (Tm 10).2 = true from tm10 (k := 0) (by decide)), mv_15]
      have : ∀ J8 : HJ, ra Tm nM (N_m 0 16) 2 (fun b10 => bn1 (Mo_downs b10 J8) (fun J11 => Mo_byRoots_52 N_m 0 p1 m I J11)) = bn1 (Mo_downs 10 J8) (fun J11 => Mo_byRoots_52 N_m 0 p1 m I J11) := fun J8 => mv_16
      simp only [this]
      rfl
    rw [st]
    by_cases c1 : G v = 0
    · by_cases c2 : H v = 0
      · rw [if_pos (by rw [j9]; exact c1), if_pos (by rw [j10]; exact c2), downs_s rfl, bn1_s, downs_s rfl, bn1_s, va_up_of (show (10 : Nat) ≠ 9 by decide)]
        obtain ⟨J', u, d1, d2, d3, d4, d5, d6⟩ := ih (v + 1) m (va_up (va_up J 9 (va_up (wrk 6 (J 9) (fun i => J 9 (i + 1))) 6 0)) 10 (va_up (wrk 6 (J 10) (fun i => J 10 (i + 1))) 6 0)) (by omega) (by omega) (fun i hi => by
          rw [va_up_at, va_up_of (show (9 : Nat) ≠ 10 by decide), va_up_at]
          by_cases e : i = 6
          · subst e
            rw [va_up_at, va_up_at, zG _ (by omega), zH _ (by omega)]
            exact ⟨rfl, rfl⟩
          · rw [va_up_of e, va_up_of e, wrk_lt (by omega), wrk_lt (by omega), show v + 1 + i = v + (i + 1) by omega]
            exact hJ (i + 1) (by omega)) (fun i hi => by
          by_cases e : i = v
          · subst e; exact ⟨c1, c2⟩
          · exact hz i (by omega))
        exact ⟨J', u, d1, d2, d3, d4, d5, fun q q1 q2 => by rw [d6 q q1 q2, va_up_of q2, va_up_of q1]⟩
      · rw [if_pos (by rw [j9]; exact c1), if_neg (by rw [j10]; exact c2)]
        exact ⟨J, v, rfl, by omega, hJ, hz, fun q => c2 q.2, fun _ _ _ => rfl⟩
    · rw [if_neg (by rw [j9]; exact c1)]
      exact ⟨J, v, rfl, by omega, hJ, hz, fun q => c1 q.1, fun _ _ _ => rfl⟩
/-- the reference's row in X -/
def ixs (o k : Nat) : Nat := if k % 2 = 0 then k / 2 else if o = 0 then k / 2 else (k + 1) / 2
def sqr (o : Nat) (W : Nat → Int64) : Nat → (Nat → Int64)
  | 0 => fun _ => 0
  | k + 1 => va_up (sqr o W k) (ixs o k) (sqr o W k (ixs o k) + W k)
theorem ixs_4 : ∀ o, o < 2 → ∀ k, k < 7 → ixs o k < 4 := by decide
theorem ixs_m : ∀ k, k < 7 → ((nI k - nI k / 2 * 2 = 0) ↔ k % 2 = 0) ∧ nI k / 2 = nI (k / 2) ∧ (nI k + 1) / 2 = nI ((k + 1) / 2) := by decide +kernel
theorem squares_s {I : HI} {J : HJ} {p o b : Nat} (hp : p < 2) (ho : o < 2) (hb : (Tm b).2 = 7) : ∃ J' : HJ, Mo_squares I N_m 0 (nI p) (nI o) b J = some J' ∧ (∀ i, i < 7 → J' b i = sqr o (fun k => (I 4 (7 * p + k)).toInt64) 7 i) ∧ ∀ q, q ≠ b → J' q = J q := by
  have ib : ∀ k, k < 7 → inb (nI k) (Tm b).2 = true := fun k hk => by rw [hb]; exact inb_nI hk (by decide)
  obtain ⟨W, hW⟩ : ∃ W : Nat → Int64, W = fun k => (I 4 (7 * p + k)).toInt64 := ⟨_, rfl⟩
  rw [← hW]
  have c0 : Mo_squares I N_m 0 (nI p) (nI o) b J = Mo_squares_24 I N_m 0 (nI p) (nI o) b 256 (va_up J b (wrk 7 (J b) (fun _ => 0))) 0 := by
    unfold Mo_squares Mo_squares_0
    have key := up_loop (fun n (S : HJ) y => Mo_squares_3 I N_m 0 (nI p) (nI o) b n S y) (fun k => va_up J b (wrk k (J b) (fun _ => 0))) (Mo_squares_24 I N_m 0 (nI p) (nI o) b 256 (va_up J b (wrk 7 (J b) (fun _ => 0))) 0) 7 (fun n k hk => ?_) (fun n => ?_) 256 0 (by decide) (by decide)
    · rw [wrk_0, va_up_id] at key
      exact key
    · show Mo_squares_3b I N_m 0 (nI p) (nI o) b (Mo_squares_3 I N_m 0 (nI p) (nI o) b n) _ (nI k) = _
      unfold Mo_squares_3b
      rw [if_neg (n7 hk), gd_of (ib k hk), bd_e, nI_clamp (by omega), up2_va, wrk_s (g := fun _ => 0), nI_1]
    · show Mo_squares_3b I N_m 0 (nI p) (nI o) b (Mo_squares_3 I N_m 0 (nI p) (nI o) b n) _ (nI 7) = _
      unfold Mo_squares_3b
      rw [if_pos (by decide)]
  rw [c0]
  have key := up_loop (fun n (S : HJ) y => Mo_squares_24 I N_m 0 (nI p) (nI o) b n S y) (fun k => va_up J b (wrk 7 (J b) (sqr o W k))) (some (va_up J b (wrk 7 (J b) (sqr o W 7)))) 7 (fun n k hk => ?_) (fun n => ?_) 256 0 (by decide) (by decide)
  · refine ⟨_, key, fun i hi => by rw [va_up_at, wrk_lt hi], fun q hq => va_up_of hq⟩
  · show Mo_squares_24b I N_m 0 (nI p) (nI o) b (Mo_squares_24 I N_m 0 (nI p) (nI o) b n) _ (nI k) = _
    obtain ⟨m1, m2, m3⟩ := ixs_m k hk
    have x4 := ixs_4 o ho k hk
    have go : ∀ t, t = ixs o k → Mo_squares_62 I N_m 0 (nI p) (nI o) b (Mo_squares_24 I N_m 0 (nI p) (nI o) b n) (va_up J b (wrk 7 (J b) (sqr o W k))) (nI k) (nI t) = Mo_squares_24 I N_m 0 (nI p) (nI o) b n (va_up J b (wrk 7 (J b) (sqr o W (k + 1)))) (nI (k + 1)) := by
      rintro t rfl
      unfold Mo_squares_62
      rw [gd_of (ib _ (by omega)), mv_4, i7, gd_of (tm4i (by omega)), gd_of (ib _ (by omega)), bd_e, nI_clamp (by omega), nI_clamp (by omega), va_up_at, wrk_lt (by omega), up2_va, nI_1]
      congr 2
      funext j
      show va_up (wrk 7 (J b) (sqr o W k)) (ixs o k) (sqr o W k (ixs o k) + (I 4 (7 * p + k)).toInt64) j = wrk 7 (J b) (va_up (sqr o W k) (ixs o k) (sqr o W k (ixs o k) + W k)) j
      rw [hW]
      by_cases c : j < 7
      · rw [wrk_lt c]
        by_cases e : j = ixs o k
        · subst e; rw [va_up_at, va_up_at]
        · rw [va_up_of e, va_up_of e, wrk_lt c]
      · rw [wrk_ge (by omega), va_up_of (by omega), wrk_ge (by omega)]
    unfold Mo_squares_24b
    rw [if_neg (n7 hk)]
    by_cases e : k % 2 = 0
    · rw [if_pos (m1.mpr e), m2]
      exact go _ (by unfold ixs; rw [if_pos e])
    · rw [if_neg (fun q => e (m1.mp q))]
      rcases (show o = 0 ∨ o = 1 by omega) with rfl | rfl
      · rw [if_pos (by decide), m2]
        exact go _ (by unfold ixs; rw [if_neg e, if_pos rfl])
      · rw [if_neg (by decide), m3]
        exact go _ (by unfold ixs; rw [if_neg e, if_neg (by decide)])
  · show Mo_squares_24b I N_m 0 (nI p) (nI o) b (Mo_squares_24 I N_m 0 (nI p) (nI o) b n) _ (nI 7) = _
    unfold Mo_squares_24b
    rw [if_pos (by decide)]
