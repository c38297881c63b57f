/-- the reference's rows a and b before they are made a pair -/
def ax (v : Nat → Int32) : Nat → Int64 := fun k => if k < 7 then wA v k else 0
def bx (v : Nat → Int32) : Nat → Int64 := fun k => if k < 7 then wB v k else 0
theorem mwp_1 {I : HI} {J : HJ} : Mo_wishAsPair_2 N_m 0 256 I J 0 = bn1 (Mo_asPair N_m 0 (va_up (va_up J 16 (wrk 14 (J 16) (ax (I 4)))) 17 (wrk 14 (J 17) (bx (I 4))))) (fun J2 => Mo_wishAsPair_69 N_m 0 256 I J2 0) := by
  have key := up_loop (fun n (S : HI × HJ) x => Mo_wishAsPair_2 N_m 0 n S.1 S.2 x) (fun k => (I, va_up (va_up J 16 (wrk k (J 16) (ax (I 4)))) 17 (wrk k (J 17) (bx (I 4))))) (bn1 (Mo_asPair N_m 0 (va_up (va_up J 16 (wrk 14 (J 16) (ax (I 4)))) 17 (wrk 14 (J 17) (bx (I 4))))) (fun J2 => Mo_wishAsPair_69 N_m 0 256 I J2 0)) 14 (fun n k hk => ?_) (fun n => ?_) 256 0 (by decide) (by decide)
  · rw [wrk_0, wrk_0, va_up_id, va_up_id] at key
    exact key
  · show Mo_wishAsPair_2b N_m 0 (Mo_wishAsPair_2 N_m 0 n) _ _ (nI k) = _
    unfold Mo_wishAsPair_2b Mo_wishAsPair_30 Mo_wishAsPair_56
    dsimp only
    by_cases h7 : k < 7
    · rw [if_neg (n14 hk), mv_23, if_neg (n7 h7), mv_4, tm4, gd_of (inb_nI hk (by decide)), gd_of (tm16 hk), bd_e, mv_24, if_neg (n7 h7), mv_4, tm4, s7, gd_of (inb_nI (by omega) (by decide)), gd_of (tm17 hk), bd_e, nI_clamp (by omega), nI_clamp (by omega), up2_skip (show (16 : Nat) ≠ 17 by decide), up2_va, nI_1]
      have s1 : va_up (wrk k (J 16) (ax (I 4))) k (I 4 k).toInt64 = wrk (k + 1) (J 16) (ax (I 4)) := by
        rw [← wrk_s]; unfold ax; rw [if_pos h7]; rfl
      have s2 : va_up (wrk k (J 17) (bx (I 4))) k (I 4 (7 + k)).toInt64 = wrk (k + 1) (J 17) (bx (I 4)) := by
        rw [← wrk_s]; unfold bx; rw [if_pos h7]; rfl
      rw [s1, s2]
    · have h7' : (7 : Int32) ≤ nI k := nI_le (a := 7) (by omega) (by omega)
      rw [if_neg (n14 hk), mv_23, if_pos h7', gd_of (tm16 hk), bd_e, mv_24, if_pos h7', gd_of (tm17 hk), bd_e, nI_clamp (by omega), up2_skip (show (16 : Nat) ≠ 17 by decide), up2_va, nI_1]
      have s1 : va_up (wrk k (J 16) (ax (I 4))) k 0 = wrk (k + 1) (J 16) (ax (I 4)) := by
        rw [← wrk_s]; unfold ax; rw [if_neg h7]
      have s2 : va_up (wrk k (J 17) (bx (I 4))) k 0 = wrk (k + 1) (J 17) (bx (I 4)) := by
        rw [← wrk_s]; unfold bx; rw [if_neg h7]
      rw [s1, s2]
  · show Mo_wishAsPair_2b N_m 0 (Mo_wishAsPair_2 N_m 0 n) _ _ (nI 14) = _
    unfold Mo_wishAsPair_2b
    rw [if_pos (by decide)]
/-- k numbers of each half of a row of fourteen -/
def pwk (k : Nat) (f : Nat → Int32) (x y : Nat → Int64) : Nat → Int32 := fun j => if j < k then (x j).toInt32 else if 7 ≤ j ∧ j < 7 + k then (y (j - 7)).toInt32 else f j
theorem pwk_s {k : Nat} {f : Nat → Int32} {x y : Nat → Int64} (h : k < 7) : va_up (va_up (pwk k f x y) k (x k).toInt32) (7 + k) (y k).toInt32 = pwk (k + 1) f x y := by
  funext j
  by_cases h1 : j = 7 + k
  · subst h1
    rw [va_up_at]
    unfold pwk
    rw [if_neg (by omega), if_pos (by omega), show 7 + k - 7 = k by omega]
  · rw [va_up_of h1]
    by_cases h2 : j = k
    · subst h2
      rw [va_up_at]
      unfold pwk
      rw [if_pos (by omega)]
    · rw [va_up_of h2]
      unfold pwk
      by_cases h3 : j < k
      · rw [if_pos h3, if_pos (by omega)]
      · rw [if_neg h3]
        by_cases h4 : 7 ≤ j ∧ j < 7 + k
        · rw [if_pos h4, if_neg (show ¬ j < k + 1 by omega), if_pos (by omega)]
        · rw [if_neg h4, if_neg (show ¬ j < k + 1 by omega), if_neg (by omega)]
theorem mwp_2 {I : HI} {J : HJ} : Mo_wishAsPair_69 N_m 0 256 I J 0 = some (va_up I 24 (pwk 7 (I 24) (J 16) (J 17)), J) := by
  have key := up_loop (fun n (S : HI × HJ) x => Mo_wishAsPair_69 N_m 0 n S.1 S.2 x) (fun k => (va_up I 24 (pwk k (I 24) (J 16) (J 17)), J)) (some (va_up I 24 (pwk 7 (I 24) (J 16) (J 17)), J)) 7 (fun n k hk => ?_) (fun n => ?_) 256 0 (by decide) (by decide)
  · have e0 : pwk 0 (I 24) (J 16) (J 17) = I 24 := by
      funext j
      unfold pwk
      rw [if_neg (by omega), if_neg (by omega)]
    rw [e0, va_up_id] at key
    exact key
  · show Mo_wishAsPair_69b N_m 0 (Mo_wishAsPair_69 N_m 0 n) _ _ (nI k) = _
    unfold Mo_wishAsPair_69b
    dsimp only
    rw [if_neg (n7 hk), mv_32, mv_23, gd_of (tm16 (by omega)), gd_of (show inb (nI k) (Tm 24).2 = true from inb_nI (by show k < 14; omega) (by decide)), bd_e, mv_32, mv_24, gd_of (tm17 (by omega)), s7, gd_of (show inb (nI (7 + k)) (Tm 24).2 = true from inb_nI (by show 7 + k < 14; omega) (by decide)), bd_e, nI_clamp (by omega), nI_clamp (by omega), up2_va, up2_va, nI_1, pwk_s hk]
  · show Mo_wishAsPair_69b N_m 0 (Mo_wishAsPair_69 N_m 0 n) _ _ (nI 7) = _
    unfold Mo_wishAsPair_69b
    rw [if_pos (by decide)]
theorem mwp_s {I : HI} {J : HJ} : ∃ (I' : HI) (J' : HJ), Mo_wishAsPair N_m 0 I J = some (I', J') ∧ (∀ k, k < 14 → I' 24 k = (wx (I 4) k).toInt32) ∧ (∀ a, a ≠ 24 → I' a = I a) ∧ ∀ a, a ≠ 16 → a ≠ 17 → J' a = J a := by
  obtain ⟨J1, hJ1⟩ : ∃ J1 : HJ, J1 = va_up (va_up J 16 (wrk 14 (J 16) (ax (I 4)))) 17 (wrk 14 (J 17) (bx (I 4))) := ⟨_, rfl⟩
  have e16 : J1 16 = wrk 14 (J 16) (ax (I 4)) := by rw [hJ1, va_up_of (by decide), va_up_at]
  have e17 : J1 17 = wrk 14 (J 17) (bx (I 4)) := by rw [hJ1, va_up_at]
  have hA : ∀ k, k < 7 → J1 16 k = wA (I 4) k := fun k hk => by rw [e16, wrk_lt (by omega)]; unfold ax; rw [if_pos hk]
  have hB : ∀ k, k < 7 → J1 17 k = wB (I 4) k := fun k hk => by rw [e17, wrk_lt (by omega)]; unfold bx; rw [if_pos hk]
  have za : z7 (J1 16) := fun k h1 h2 => by rw [e16, wrk_lt h2]; unfold ax; rw [if_neg (by omega)]
  have zb : z7 (J1 17) := fun k h1 h2 => by rw [e17, wrk_lt h2]; unfold bx; rw [if_neg (by omega)]
  have hd := dvs_congr hA hB
  have hp := Mo_asPair_s (J := J1) (fun k hk => by rw [hA k hk]; exact i9_nm) (fun k hk => by rw [hB k hk]; exact i9_nm) za zb
  obtain ⟨J3, hJ3⟩ : ∃ J3 : HJ, J3 = va_up (va_up J1 16 (wrk 14 (J1 16) (nrm (dvs (J1 16) (J1 17)) (J1 16)))) 17 (wrk 14 (J1 17) (nrm (dvs (J1 16) (J1 17)) (J1 17))) := ⟨_, rfl⟩
  rw [← hJ3] at hp
  refine ⟨va_up I 24 (pwk 7 (I 24) (J3 16) (J3 17)), J3, ?_, ?_, fun a ha => va_up_of ha, ?_⟩
  · unfold Mo_wishAsPair Mo_wishAsPair_0
    rw [mwp_1, ← hJ1, hp, bn1_s, mwp_2]
  · intro k hk
    rw [va_up_at, hJ3, va_up_of (show (16 : Nat) ≠ 17 by decide), va_up_at, va_up_at, hd]
    unfold pwk wx num
    by_cases h7 : k < 7
    · rw [if_pos h7, if_pos h7, wrk_lt (by omega)]
      unfold nrm wd
      rw [hA k h7]
    · rw [if_neg h7, if_pos (by omega), if_neg h7, wrk_lt (by omega)]
      unfold nrm wd
      rw [hB _ (by omega)]
  · intro a h1 h2
    rw [hJ3, va_up_of h2, va_up_of h1, hJ1, va_up_of h2, va_up_of h1]
theorem mfound_1 {I : HI} {J : HJ} {k6 : HI → HJ → Int32 → Option (HI × HJ × Int32)} {r : Nat} (hr : r < 12) : ∀ m k n s, m + k = 14 → m < n → Mo_found_18 N_m 0 k6 n I J (nI r) (b2i s) (nI k) = if (s && eqm (fun j => I 22 (14 * r + j)) (I 24) m k) = true then some (I, J, nI r) else k6 I J (nI (r + 1)) := by
  intro m
  induction m with
  | zero =>
    intro k n s h1 h2
    obtain ⟨n, rfl⟩ : ∃ j, n = j + 1 := ⟨n - 1, by omega⟩
    have : k = 14 := by omega
    subst this
    show Mo_found_18b N_m 0 k6 (Mo_found_18 N_m 0 k6 n) I J _ _ _ = _
    unfold Mo_found_18b
    rw [if_pos (by decide), nI_1]
    cases s <;> rfl
  | succ m ih =>
    intro k n s h1 h2
    obtain ⟨n, rfl⟩ : ∃ j, n = j + 1 := ⟨n - 1, by omega⟩
    show Mo_found_18b N_m 0 k6 (Mo_found_18 N_m 0 k6 n) I J _ _ _ = _
    unfold Mo_found_18b Mo_found_52 Mo_found_53
    rw [if_neg (n14 (by omega)), mv_29, i14, gd_of (tm22 (by omega)), mv_32, gd_of (show inb (nI k) (Tm 24).2 = true from inb_nI (by show k < 14; omega) (by decide)), nI_clamp (by omega), nI_clamp (by omega), nI_1, show (0 : Int32) = b2i false from rfl, show (1 : Int32) = b2i true from rfl, ih (k + 1) n false (by omega) (by omega), ih (k + 1) n true (by omega) (by omega)]
    show _ = if (s && (decide (I 22 (14 * r + k) = I 24 k) && eqm _ _ m (k + 1))) = true then _ else _
    by_cases e : I 22 (14 * r + k) = I 24 k
    · rw [if_pos e, decide_eq_true e]
      cases s <;> rfl
    · rw [if_neg e, decide_eq_false e]
      cases s <;> rfl
theorem mfound_2 {I : HI} {J : HJ} {q : Nat} (hq : q ≤ 12) (hc : I 0 31 = nI q) : ∀ m k n, m + k = q → m < n → Mo_found_6 N_m 0 n I J (nI k) = some (I, J, fnd (fun r => eqm (fun j => I 22 (14 * r + j)) (I 24) 14 0) m k) := by
  intro m
  induction m with
  | zero =>
    intro k n h1 h2
    obtain ⟨n, rfl⟩ : ∃ j, n = j + 1 := ⟨n - 1, by omega⟩
    show Mo_found_6b N_m 0 (Mo_found_6 N_m 0 n) I J _ = _
    unfold Mo_found_6b
    rw [hc, if_pos (nI_le (by omega) (by omega))]
    rfl
  | succ m ih =>
    intro k n h1 h2
    obtain ⟨n, rfl⟩ : ∃ j, n = j + 1 := ⟨n - 1, by omega⟩
    show Mo_found_6b N_m 0 (Mo_found_6 N_m 0 n) I J _ = _
    unfold Mo_found_6b
    have hs := mfound_1 (I := I) (J := J) (k6 := Mo_found_6 N_m 0 n) (r := k) (by omega) 14 0 256 true (by decide) (by decide)
    rw [hc, if_neg (nI_ge (by omega) (by omega))]
    refine Eq.trans hs ?_
    rw [ih (k + 1) n (by omega) (by omega), Bool.true_and]
    show _ = some (I, J, if eqm (fun j => I 22 (14 * k + j)) (I 24) 14 0 = true then nI k else fnd _ m (k + 1))
    cases eqm (fun j => I 22 (14 * k + j)) (I 24) 14 0 <;> rfl
theorem eqm_congr {x y x' y' : Nat → Int32} : ∀ m k, (∀ j, j < k + m → x j = x' j ∧ y j = y' j) → eqm x y m k = eqm x' y' m k := by
  intro m
  induction m with
  | zero => intro k _; rfl
  | succ m ih =>
    intro k h
    show (decide (x k = y k) && eqm x y m (k + 1)) = (decide (x' k = y' k) && eqm x' y' m (k + 1))
    rw [(h k (by omega)).1, (h k (by omega)).2, ih (k + 1) (fun j hj => h j (by omega))]
theorem fnd_congr {e e' : Nat → Bool} : ∀ m k, (∀ j, j < k + m → e j = e' j) → fnd e m k = fnd e' m k := by
  intro m
  induction m with
  | zero => intro k _; rfl
  | succ m ih =>
    intro k h
    show (if e k = true then nI k else fnd e m (k + 1)) = (if e' k = true then nI k else fnd e' m (k + 1))
    rw [h k (by omega), ih (k + 1) (fun j hj => h j (by omega))]
theorem fnd_cases {e : Nat → Bool} : ∀ m k, fnd e m k = -1 ∨ ∃ r, r < k + m ∧ fnd e m k = nI r := by
  intro m
  induction m with
  | zero => intro k; exact Or.inl rfl
  | succ m ih =>
    intro k
    show (if e k = true then nI k else fnd e m (k + 1)) = -1 ∨ ∃ r, r < k + (m + 1) ∧ (if e k = true then nI k else fnd e m (k + 1)) = nI r
    by_cases h : e k = true
    · rw [if_pos h]; exact Or.inr ⟨k, by omega, rfl⟩
    · rw [if_neg h]
      rcases ih (k + 1) with q | ⟨r, hr, q⟩
      · exact Or.inl q
      · exact Or.inr ⟨r, by omega, q⟩
theorem mfound_s {I : HI} {J : HJ} {q : Nat} (hq : q ≤ 12) (hc : I 0 31 = nI q) : ∃ (I' : HI) (J' : HJ), Mo_found N_m 0 I J = some (I', J', fnd (fun r => eqm (fun j => I 22 (14 * r + j)) (fun j => (wx (I 4) j).toInt32) 14 0) q 0) ∧ (∀ k, k < 14 → I' 24 k = (wx (I 4) k).toInt32) ∧ (∀ a, a ≠ 24 → I' a = I a) ∧ ∀ a, a ≠ 16 → a ≠ 17 → J' a = J a := by
  obtain ⟨I', J', h1, h2, h3, h4⟩ := mwp_s (I := I) (J := J)
  refine ⟨I', J', ?_, h2, h3, h4⟩
  unfold Mo_found Mo_found_0
  rw [h1, bn2_s]
  refine Eq.trans (mfound_2 hq (by rw [h3 0 (by decide)]; exact hc) q 0 256 (by omega) (by omega)) ?_
  rw [h3 22 (by decide), fnd_congr (e' := fun r => eqm (fun j => I 22 (14 * r + j)) (fun j => (wx (I 4) j).toInt32) 14 0) q 0 (fun r _ => eqm_congr 14 0 (fun j hj => ⟨rfl, h2 j (by omega)⟩))]
/-- the number of the wish in the memory -/
def fno (v mem : Nat → Int32) (q : Nat) : Int32 := fnd (fun r => eqm (fun j => mem (14 * r + j)) (fun j => (wx v j).toInt32) 14 0) q 0
theorem fno_c {I I2 : HI} {q : Nat} (hM : RM q (I 64 2) (I2 0 31) (fun k => I (66 + k)) (I2 22) (I2 23)) : fnd (fun r => eqm (fun j => I (66 + r) (1 + j)) (fun j => (wx (I2 4) j).toInt32) 14 0) q 0 = fno (I2 4) (I2 22) q := fnd_congr q 0 (fun r hr => eqm_congr 14 0 (fun j hj => ⟨((hM.2.2.2 r (by omega)).2 j (by omega)).1, rfl⟩))
/-- what a search leaves as it was -/
def fF (J J' : HJ) (I2 I2' : HI) (J2 J2' : HJ) : Prop := (∀ a, a ≠ 80 → a ≠ 82 → J' a = J a) ∧ (∀ a, a ≠ 24 → I2' a = I2 a) ∧ ∀ a, a ≠ 16 → a ≠ 17 → J2' a = J2 a
theorem find_ok {w : Nat → Bool} {I I2 : HI} {J J2 : HJ} {q : Nat} (hW : RW (J (ab w 1 + 1)) (J (be w 1 + 1)) (I2 4)) (hM : RM q (I 64 2) (I2 0 31) (fun k => I (66 + k)) (I2 22) (I2 23)) : ∃ (J' : HJ) (I2' : HI) (J2' : HJ), Lm_find I (nn w) 0 J = some (J', fno (I2 4) (I2 22) q) ∧ Mo_found N_m 0 I2 J2 = some (I2', J2', fno (I2 4) (I2 22) q) ∧ fF J J' I2 I2' J2 J2' := by
  obtain ⟨J', h1, h2, h3⟩ := numberOf_s (I := I) hW hM.1 hM.2.1
  obtain ⟨I2', J2', g1, g2, g3, g4⟩ := mfound_s (I := I2) (J := J2) hM.1 hM.2.2.1
  refine ⟨J', I2', J2', ?_, g1, h3, g3, g4⟩
  unfold Lm_find Lm_find_0
  rw [nv_0_5, nv_0_0, h1, bn2_s, fno_c hM]
