theorem fold_ok {w : Nat → Bool} {I I2 : HI} {J J2 : HJ} {m : Nat} (hL : RL m (I 6 1) (I2 0 6) (fun k => I (8 + k)) (I2 5)) (hF : m ≠ 0 → RR 7 (J (ab w 15 + 1)) (J (be w 15 + 1)) (FO (I2 5) m)) (p i : Int32) : ∃ (J2' : HJ) (r : Int64), Lm_fold I J (nn w) 0 p i = some r ∧ Mo_fold I2 N_m 0 p i J2 = some (J2', r) ∧ fM J2 J2' := by
  obtain ⟨hm, hc, hc2, -, ha, hv⟩ := hL
  obtain ⟨J', h1, h2, h3⟩ := mfold_s (J := J2) hm hc2 ha hv
  unfold Lm_fold Lm_fold_0 Mo_fold Mo_fold_0
  rw [h1, bn1_s, Lm_isPlace_s, bn1_s, Mo_isTwo_s, bn1_s, Lm_isPower_s, bn1_s, Mo_in_6, bn1_s]
  by_cases hp : p = 0 ∨ p = 1
  · rw [decide_eq_true hp, if_neg b2i_t, if_neg b2i_t]
    rcases inb_cases i (n := 7) (by decide) with hb | ⟨k, hk, rfl⟩
    · rw [hb, if_pos b2i_f, if_pos b2i_f]
      exact ⟨J', 0, rfl, rfl, h3⟩
    · rw [inb_nI hk (by decide), if_neg b2i_t, if_neg b2i_t, nv_0_1, hc]
      unfold Mo_foldBy Mo_foldBy_0
      rw [hc2]
      by_cases h0 : m = 0
      · subst h0
        rw [if_pos (by decide), if_pos (by decide), bn1_s]
        exact ⟨J', 0, rfl, rfl, h3⟩
      · have e0 : ¬ nI m = 0 := fun q => h0 ((nI_eq (b := 0) (by omega) (by decide)).mp q)
        rw [if_neg e0, if_neg e0, nv_0_2, nv_14_0]
        have hR := hF h0
        rcases hp with rfl | rfl
        · rw [Pa_side_0s pa_15, bn1_s, gd_of (po_dec (isPa_ab pa_15 w)), Po_at_s (isPa_ab pa_15 w), bn1_s, if_pos rfl, mv_23, gd_of (tm16 (by omega)), bn1_s, nI_clamp (by omega), pat_nI hk]
          exact ⟨J', _, rfl, by rw [h2.1 k (by omega), hR.1 k hk], h3⟩
        · rw [Pa_side_1s pa_15 (by decide), bn1_s, gd_of (po_dec (isPa_be pa_15 w)), Po_at_s (isPa_be pa_15 w), bn1_s, if_neg (by decide), mv_24, gd_of (tm17 (by omega)), bn1_s, nI_clamp (by omega), pat_nI hk]
          exact ⟨J', _, rfl, by rw [h2.2 k (by omega), hR.2 k hk], h3⟩
  · rw [decide_eq_false hp, if_pos b2i_f, if_pos b2i_f]
    exact ⟨J', 0, rfl, rfl, h3⟩
def px (g : Nat → Int64) (n j : Nat) : Int64 := if j ≤ n ∧ n - j < 7 then g (n - j) else 0
def cv (f g : Nat → Int64) (n : Nat) : Nat → Int64
  | 0 => 0
  | k + 1 => cv f g n k + f k * px g n k
theorem cv_comm {f g : Nat → Int64} : ∀ n, n < 13 → cv f g n 7 = cv g f n 7 := by
  intro n hn
  rcases (show n = 0 ∨ n = 1 ∨ n = 2 ∨ n = 3 ∨ n = 4 ∨ n = 5 ∨ n = 6 ∨ n = 7 ∨ n = 8 ∨ n = 9 ∨ n = 10 ∨ n = 11 ∨ n = 12 by omega) with rfl | rfl | rfl | rfl | rfl | rfl | rfl | rfl | rfl | rfl | rfl | rfl | rfl <;> simp [cv, px] <;> ac_rfl
theorem cv_big {f g : Nat → Int64} {n : Nat} (hn : 13 ≤ n) : ∀ k, k ≤ 7 → cv f g n k = 0
  | 0, _ => rfl
  | k + 1, hk => by
    show cv f g n k + f k * px g n k = 0
    unfold px
    rw [cv_big hn k (by omega), if_neg (by omega), Int64.mul_zero, Int64.add_zero]
theorem cv_congr {f f' g g' : Nat → Int64} (hf : ∀ j, j < 7 → f j = f' j) (hg : ∀ j, j < 7 → g j = g' j) {n : Nat} : ∀ k, k ≤ 7 → cv f g n k = cv f' g' n k
  | 0, _ => rfl
  | k + 1, hk => by
    show cv f g n k + f k * px g n k = cv f' g' n k + f' k * px g' n k
    rw [cv_congr hf hg k (by omega), hf k (by omega)]
    unfold px
    by_cases e : k ≤ n ∧ n - k < 7
    · rw [if_pos e, if_pos e, hg _ e.2]
    · rw [if_neg e, if_neg e]
theorem pat_px {g : Nat → Int64} {n j : Nat} (hn : n < 20) (hj : j < 7) : pat g (nI n - nI j) = px g n j := by
  unfold px
  by_cases h : j ≤ n
  · rw [nI_sub h]
    by_cases h7 : n - j < 7
    · rw [pat_nI h7, if_pos ⟨h, h7⟩]
    · rw [pat_hi (by omega) (by omega), if_neg (fun q => h7 q.2)]
  · rw [if_neg (fun q => h q.1)]
    apply pat_neg
    rw [Int32.lt_iff_toInt_lt, i32_0, sub_toInt (by rw [nI_toInt (by omega), nI_toInt (by omega)]; omega) (by rw [nI_toInt (by omega), nI_toInt (by omega)]; omega), nI_toInt (by omega), nI_toInt (by omega)]
    omega
theorem sub4 (a b c d : Int64) : a - b + c - d = a + c - (b + d) := by
  rw [Int64.sub_eq_add_neg, Int64.sub_eq_add_neg, Int64.sub_eq_add_neg, Int64.neg_add, Int64.sub_eq_add_neg]
  ac_rfl
theorem sub0 {a b : Int64} : (a - b = 0) ↔ a = b := by
  constructor
  · intro h
    have := congrArg (· + b) h
    simp only [Int64.sub_add_cancel, Int64.zero_add] at this
    exact this
  · rintro rfl; exact Int64.sub_self a
def alq (e : Nat → Bool) : Nat → Nat → Bool
  | 0, _ => true
  | m + 1, k => e k && alq e m (k + 1)
theorem alq_iff {e : Nat → Bool} : ∀ m k, alq e m k = true ↔ ∀ j, k ≤ j → j < k + m → e j = true
  | 0, k => by
    show true = true ↔ _
    exact ⟨fun _ j h1 h2 => absurd h2 (by omega), fun _ => rfl⟩
  | m + 1, k => by
    show (e k && alq e m (k + 1)) = true ↔ _
    rw [Bool.and_eq_true, alq_iff m (k + 1)]
    constructor
    · rintro ⟨h1, h2⟩ j h3 h4
      by_cases ej : j = k
      · rw [ej]; exact h1
      · exact h2 j (by omega) (by omega)
    · intro h
      exact ⟨h k (by omega) (by omega), fun j h1 h2 => h j (by omega) (by omega)⟩
theorem cfr_13 {w : Nat → Bool} {J : HJ} {p q n : Nat} {K : Int32 → Option Int32} (hp : isPa p) (hq : isPa q) (hn : n < 13) : Pa_isFractionOf_13 J (nn w) p q K 256 (nI n) 0 0 = if cv (J (ab w p + 1)) (J (be w q + 1)) n 7 = cv (J (ab w q + 1)) (J (be w p + 1)) n 7 then K (nI (n + 1)) else some 0 := by
  have key := up_loop (fun f S y => Pa_isFractionOf_13 J (nn w) p q K f (nI n) S y) (fun k => cv (J (ab w p + 1)) (J (be w q + 1)) n k - cv (J (ab w q + 1)) (J (be w p + 1)) n k) (if cv (J (ab w p + 1)) (J (be w q + 1)) n 7 = cv (J (ab w q + 1)) (J (be w p + 1)) n 7 then K (nI (n + 1)) else some 0) 7 (fun f k hk => ?_) (fun f => ?_) 256 0 (by decide) (by decide)
  · have e0 : cv (J (ab w p + 1)) (J (be w q + 1)) n 0 - cv (J (ab w q + 1)) (J (be w p + 1)) n 0 = 0 := Int64.sub_self 0
    rw [e0] at key
    exact key
  · show Pa_isFractionOf_13b J (nn w) p q K (Pa_isFractionOf_13 J (nn w) p q K f) (nI n) _ (nI k) = _
    unfold Pa_isFractionOf_13b
    rw [if_neg (n7 hk), pa_0 hp, Po_at_s (isPa_ab hp w), bn1_s, pa_1' hq, Po_at_s (isPa_be hq w), bn1_s, bd_e, pa_0 hq, Po_at_s (isPa_ab hq w), bn1_s, pa_1' hp, Po_at_s (isPa_be hp w), bn1_s, bd_e, pat_px (by omega) hk, pat_px (by omega) hk, pat_nI hk, pat_nI hk, nI_1, sub4]
    rfl
  · show Pa_isFractionOf_13b J (nn w) p q K (Pa_isFractionOf_13 J (nn w) p q K f) (nI n) _ (nI 7) = _
    unfold Pa_isFractionOf_13b
    rw [if_pos (by decide), nI_1]
    by_cases e : cv (J (ab w p + 1)) (J (be w q + 1)) n 7 = cv (J (ab w q + 1)) (J (be w p + 1)) n 7
    · rw [if_pos (sub0.mpr e), if_pos e]
    · rw [if_neg (fun h => e (sub0.mp h)), if_neg e]
theorem cfr_2 {w : Nat → Bool} {J : HJ} {p q : Nat} (hp : isPa p) (hq : isPa q) : ∀ m k f, m + k = 13 → m < f → Pa_isFractionOf_2 J (nn w) p q f (nI k) = some (b2i (alq (fun n => decide (cv (J (ab w p + 1)) (J (be w q + 1)) n 7 = cv (J (ab w q + 1)) (J (be w p + 1)) n 7)) m k))
  | 0, k, f + 1, hk, _ => by
    have e : k = 13 := by omega
    subst e
    show Pa_isFractionOf_2b J (nn w) p q (Pa_isFractionOf_2 J (nn w) p q f) (nI 13) = _
    unfold Pa_isFractionOf_2b
    rw [if_pos (by decide)]
    rfl
  | m + 1, k, f + 1, hk, hf => by
    show Pa_isFractionOf_2b J (nn w) p q (Pa_isFractionOf_2 J (nn w) p q f) (nI k) = _
    unfold Pa_isFractionOf_2b
    rw [if_neg (fun h => by rw [show (12 : Int32) = nI 12 from rfl, Int32.lt_iff_toInt_lt, nI_toInt (by omega), nI_toInt (by omega)] at h; omega), cfr_13 hp hq (by omega)]
    show _ = some (b2i (decide (cv (J (ab w p + 1)) (J (be w q + 1)) k 7 = cv (J (ab w q + 1)) (J (be w p + 1)) k 7) && alq _ m (k + 1)))
    by_cases e : cv (J (ab w p + 1)) (J (be w q + 1)) k 7 = cv (J (ab w q + 1)) (J (be w p + 1)) k 7
    · rw [if_pos e, decide_eq_true e, cfr_2 hp hq m (k + 1) f (by omega) (by omega), Bool.true_and]
    · rw [if_neg e, decide_eq_false e, Bool.false_and]
      rfl
theorem Mo_in_nj {n j : Nat} (hn : n < 20) (hj : j < 7) : Mo_in (nI n - nI j).toInt64 0 13 = some (b2i (decide (j ≤ n ∧ n - j < 14))) := by
  rw [Mo_in_s, Int32.toInt_toInt64, sub_toInt (by rw [nI_toInt (by omega), nI_toInt (by omega)]; omega) (by rw [nI_toInt (by omega), nI_toInt (by omega)]; omega), nI_toInt (by omega), nI_toInt (by omega), show (0 : Int64).toInt = 0 from rfl, show (13 : Int64).toInt = 13 from rfl]
  exact congrArg (fun b => some (b2i b)) (decide_eq_decide.mpr (by omega))
theorem tm4i {k : Nat} (h : k < 14) : inb (nI k) (Tm 4).2 = true := inb_nI h (by decide)
theorem mal_37 {I : HI} {J : HJ} {a b : Nat → Int64} {K : Int32 → Int32 → Option Int32} {n : Nat} {x : Bool} (hn : n < 20) (hR : RR 14 (J 16) (J 17) (a, b)) (za : z7 a) (zb : z7 b) : Mo_alikeNow_37 I J N_m 0 K 256 (b2i x) (nI n) 0 0 0 = K (b2i (x && decide (cv (wB (I 4)) a n 7 = cv (wA (I 4)) b n 7))) (nI (n + 1)) := by
  have pz : ∀ (f g : Nat → Int64) {k : Nat}, k < 7 → (∀ j, j < 14 → f j = g j) → z7 g → (j : Decidable (k ≤ n ∧ n - k < 14)) → (if k ≤ n ∧ n - k < 14 then f (n - k) else 0) = px g n k := by
    intro f g k hk hfg hz _
    unfold px
    by_cases e : k ≤ n ∧ n - k < 14
    · rw [if_pos e, hfg _ e.2]
      by_cases e7 : n - k < 7
      · rw [if_pos ⟨e.1, e7⟩]
      · rw [if_neg (fun q => e7 q.2)]; exact hz _ (by omega) e.2
    · rw [if_neg e, if_neg (fun q => e ⟨q.1, by omega⟩)]
  have key := up_loop (fun f (S : Int64 × Int64) y => Mo_alikeNow_37 I J N_m 0 K f (b2i x) (nI n) S.1 S.2 y) (fun k => (cv (wB (I 4)) a n k, cv (wA (I 4)) b n k)) (K (b2i (x && decide (cv (wB (I 4)) a n 7 = cv (wA (I 4)) b n 7))) (nI (n + 1))) 7 (fun f k hk => ?_) (fun f => ?_) 256 0 (by decide) (by decide)
  · exact key
  · show Mo_alikeNow_37b I J N_m 0 K (Mo_alikeNow_37 I J N_m 0 K f) (b2i x) (nI n) _ _ (nI k) = _
    unfold Mo_alikeNow_37b
    dsimp only
    have ea := pz (J 16) a hk hR.1 za inferInstance
    have eb := pz (J 17) b hk hR.2 zb inferInstance
    show _ = Mo_alikeNow_37 I J N_m 0 K f (b2i x) (nI n) (cv (wB (I 4)) a n k + wB (I 4) k * px a n k) (cv (wA (I 4)) b n k + wA (I 4) k * px b n k) (nI (k + 1))
    rw [if_neg (n7 hk), Mo_in_nj hn hk, bn1_s]
    by_cases e : k ≤ n ∧ n - k < 14
    · rw [if_pos e] at ea eb
      rw [decide_eq_true e, if_neg b2i_t, mv_4, show (7 : Int32) + nI k = nI (7 + k) from nI_add 7 k, gd_of (tm4i (by omega)), mv_23, nI_sub e.1, gd_of (tm16 e.2)]
      unfold Mo_alikeNow_85
      rw [bd_e, Mo_in_nj hn hk, bn1_s, decide_eq_true e, if_neg b2i_t, mv_4, gd_of (tm4i (by omega)), mv_24, nI_sub e.1, gd_of (tm17 e.2)]
      unfold Mo_alikeNow_126
      rw [bd_e, nI_clamp (by omega), nI_clamp (by omega), nI_clamp (by omega), ea, eb, nI_1]
      rfl
    · rw [if_neg e] at ea eb
      rw [decide_eq_false e, if_pos b2i_f]
      unfold Mo_alikeNow_85
      rw [bd_e, Mo_in_nj hn hk, bn1_s, decide_eq_false e, if_pos b2i_f]
      unfold Mo_alikeNow_126
      rw [bd_e, ← ea, ← eb, Int64.mul_zero, Int64.mul_zero, nI_1]
  · show Mo_alikeNow_37b I J N_m 0 K (Mo_alikeNow_37 I J N_m 0 K f) (b2i x) (nI n) _ _ (nI 7) = _
    unfold Mo_alikeNow_37b Mo_alikeNow_150 Mo_alikeNow_151
    dsimp only
    rw [if_pos (by decide), nI_1]
    cases x
    · rw [if_pos b2i_f, Bool.false_and]; rfl
    · rw [if_neg b2i_t, Bool.true_and]
      by_cases e : cv (wB (I 4)) a n 7 = cv (wA (I 4)) b n 7
      · rw [if_pos e, decide_eq_true e]; rfl
      · rw [if_neg e, decide_eq_false e]; rfl
theorem mal_23 {I : HI} {J : HJ} {a b : Nat → Int64} (hR : RR 14 (J 16) (J 17) (a, b)) (za : z7 a) (zb : z7 b) : ∀ m k f x, m + k = 20 → m < f → Mo_alikeNow_23 I J N_m 0 f (b2i x) (nI k) = some (b2i (x && alq (fun n => decide (cv (wB (I 4)) a n 7 = cv (wA (I 4)) b n 7)) m k))
  | 0, k, f + 1, x, hk, _ => by
    have e : k = 20 := by omega
    subst e
    show Mo_alikeNow_23b I J N_m 0 (Mo_alikeNow_23 I J N_m 0 f) (b2i x) (nI 20) = some (b2i (x && true))
    unfold Mo_alikeNow_23b
    rw [if_pos (by decide), Bool.and_true]
    cases x <;> rfl
  | m + 1, k, f + 1, x, hk, hf => by
    show Mo_alikeNow_23b I J N_m 0 (Mo_alikeNow_23 I J N_m 0 f) (b2i x) (nI k) = some (b2i (x && (decide (cv (wB (I 4)) a k 7 = cv (wA (I 4)) b k 7) && alq _ m (k + 1))))
    unfold Mo_alikeNow_23b
    rw [if_neg (show ¬ (20 : Int32) ≤ nI k from nI_ge (a := k) (b := 20) (by omega) (by decide)), mal_37 (by omega) hR za zb, mal_23 hR za zb m (k + 1) f _ (by omega) (by omega), Bool.and_assoc]
theorem FO_St {A : Nat → Int32} {m : Nat} (ha : ∀ k, k < m → aok A k) (hv : vc A m ≤ 6) : St 6 (FO A m).1 (FO A m).2 := by
  unfold FO
  by_cases h : m = 0
  · rw [if_pos h]; exact fun k => ⟨lb_0, lb_0, fun _ => ⟨rfl, rfl⟩⟩
  · rw [if_neg h]
    have := fo_St ha hv m (Nat.le_refl m)
    rw [Nat.sub_self] at this
    exact this
theorem calike_s {w : Nat → Bool} {I I2 : HI} {J J2 : HJ} {m : Nat} (hL : RL m (I 6 1) (I2 0 6) (fun k => I (8 + k)) (I2 5)) (hW : RW (J (ab w 1 + 1)) (J (be w 1 + 1)) (I2 4)) (hF : m ≠ 0 → RR 7 (J (ab w 15 + 1)) (J (be w 15 + 1)) (FO (I2 5) m)) (hR : RR 14 (J2 16) (J2 17) (FO (I2 5) m)) : ∃ r : Int32, Lm_alike I J (nn w) 0 = some r ∧ Mo_alikeNow I2 J2 N_m 0 = some r := by
  obtain ⟨hm, hc, hc2, -, ha, hv⟩ := hL
  unfold Lm_alike Lm_alike_0 Mo_alikeNow Mo_alikeNow_0
  rw [nv_0_1, hc, hc2]
  by_cases h0 : m = 0
  · subst h0
    rw [if_pos (by decide), if_pos (by decide)]
    exact ⟨-3, rfl, rfl⟩
  · have e0 : ¬ nI m = 0 := fun q => h0 ((nI_eq (b := 0) (by omega) (by decide)).mp q)
    rw [if_neg e0, if_neg e0, nv_0_0, Pa_side_1s pa_1 (by decide), bn1_s, gd_of (po_dec (isPa_be pa_1 w)), Po_degree_s (isPa_be pa_1 w), bn1_s, show Mo_degree I2 N_m 0 1 = some (dgb 7 (zi (I2 4) 1)) from Mo_degree_s (p := 1) (by decide), bn1_s, dgb_congr 7 (fun j hj => RW_zb hW hj)]
    by_cases hd : dgb 7 (zi (I2 4) 1) = -1
    · rw [if_pos hd, if_pos hd]
      exact ⟨-3, rfl, rfl⟩
    · obtain ⟨-, -, za, zb⟩ := St_nms (FO_St ha hv) (Nat.le_refl 6)
      obtain ⟨f1, f2⟩ := hF h0
      have em := mal_23 (I := I2) (J := J2) (a := (FO (I2 5) m).1) (b := (FO (I2 5) m).2) hR za zb 20 0 256 true (by decide) (by decide)
      have ec := cfr_2 (w := w) (J := J) pa_15 pa_1 13 0 256 (by decide) (by decide)
      have em' : Mo_alikeNow_23 I2 J2 N_m 0 256 1 0 = _ := em
      have ec' : Pa_isFractionOf J (nn w) 15 1 = _ := ec
      rw [if_neg hd, if_neg hd, nv_0_2, nv_14_0, nv_0_0, ec', bn1_s, em', Bool.true_and]
      have ee : alq (fun n => decide (cv (J (ab w 15 + 1)) (J (be w 1 + 1)) n 7 = cv (J (ab w 1 + 1)) (J (be w 15 + 1)) n 7)) 13 0 = alq (fun n => decide (cv (wB (I2 4)) (FO (I2 5) m).1 n 7 = cv (wA (I2 4)) (FO (I2 5) m).2 n 7)) 20 0 := by
        rw [Bool.eq_iff_iff, alq_iff, alq_iff]
        have same : ∀ n, n < 13 → (cv (J (ab w 15 + 1)) (J (be w 1 + 1)) n 7 = cv (J (ab w 1 + 1)) (J (be w 15 + 1)) n 7 ↔ cv (wB (I2 4)) (FO (I2 5) m).1 n 7 = cv (wA (I2 4)) (FO (I2 5) m).2 n 7) := by
          intro n hn
          rw [cv_comm (f := wB (I2 4)) n hn, cv_congr (f := J (ab w 15 + 1)) f1 (g' := wB (I2 4)) hW.2.1 7 (Nat.le_refl 7), cv_congr (f := J (ab w 1 + 1)) (f' := wA (I2 4)) hW.1 f2 7 (Nat.le_refl 7)]
        constructor
        · intro h j _ hj
          by_cases h13 : j < 13
          · exact decide_eq_true ((same j h13).mp (of_decide_eq_true (h j (by omega) (by omega))))
          · exact decide_eq_true (by rw [cv_big (by omega) 7 (by decide), cv_big (by omega) 7 (by decide)])
        · intro h j _ hj
          exact decide_eq_true ((same j (by omega)).mpr (of_decide_eq_true (h j (by omega) (by omega))))
      rw [ee]
      cases alq (fun n => decide (cv (wB (I2 4)) (FO (I2 5) m).1 n 7 = cv (wA (I2 4)) (FO (I2 5) m).2 n 7)) 20 0
      · exact ⟨0, if_pos b2i_f, rfl⟩
      · exact ⟨1, if_neg b2i_t, rfl⟩
theorem alike_ok {w : Nat → Bool} {I I2 : HI} {J J2 : HJ} {m : Nat} (hL : RL m (I 6 1) (I2 0 6) (fun k => I (8 + k)) (I2 5)) (hW : RW (J (ab w 1 + 1)) (J (be w 1 + 1)) (I2 4)) (hF : m ≠ 0 → RR 7 (J (ab w 15 + 1)) (J (be w 15 + 1)) (FO (I2 5) m)) : ∃ (J2' : HJ) (r : Int32), Lm_alike I J (nn w) 0 = some r ∧ Mo_alike I2 N_m 0 J2 = some (J2', r) ∧ fM J2 J2' := by
  obtain ⟨J', h1, h2, h3⟩ := mfold_s (J := J2) hL.1 hL.2.2.1 hL.2.2.2.2.1 hL.2.2.2.2.2
  obtain ⟨r, g1, g2⟩ := calike_s hL hW hF h2
  unfold Mo_alike Mo_alike_0
  rw [h1, bn1_s, g2, bn1_s]
  exact ⟨J', r, g1, rfl, h3⟩
