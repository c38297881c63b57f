def mzI (I : HI) (n m : Nat) : HI := fun a => if n ≤ a ∧ a < n + (m + 1) then (fun _ => 0) else I a
def mzJ (J : HJ) (n m : Nat) : HJ := fun a => if n ≤ a ∧ a < n + (m + 1) then (fun _ => 0) else J a
def mzN (N : HN) (n m : Nat) : HN := fun a => if a = n then (fun k => if k < m then some (n + 1 + k) else none) else if n < a ∧ a < n + (m + 1) then (fun _ => none) else N a
theorem mzI_lt {I : HI} {n m a : Nat} (h : a < n) : mzI I n m a = I a := by unfold mzI; rw [if_neg (by omega)]
theorem mzJ_lt {J : HJ} {n m a : Nat} (h : a < n) : mzJ J n m a = J a := by unfold mzJ; rw [if_neg (by omega)]
theorem mzN_lt {N : HN} {n m a : Nat} (h : a < n) : mzN N n m a = N a := by unfold mzN; rw [if_neg (by omega), if_neg (by omega)]
theorem mzI_in {I : HI} {n m i : Nat} (h : i < m) : mzI I n m (n + 1 + i) = fun _ => 0 := by unfold mzI; rw [if_pos (by omega)]
theorem mzJ_in {J : HJ} {n m i : Nat} (h : i < m) : mzJ J n m (n + 1 + i) = fun _ => 0 := by unfold mzJ; rw [if_pos (by omega)]
theorem mzN_at {N : HN} {n m : Nat} : mzN N n m n = fun k => if k < m then some (n + 1 + k) else none := by unfold mzN; rw [if_pos rfl]
theorem nok_mz {n m : Nat} {N : HN} (h : nok n N) : nok (n + (m + 1)) (mzN N n m) := by
  intro a k b ha hN
  unfold mzN at hN
  by_cases e : a = n
  · rw [if_pos e] at hN
    by_cases e2 : k < m
    · rw [if_pos e2] at hN
      cases hN
      omega
    · rw [if_neg e2] at hN
      cases hN
  · rw [if_neg e] at hN
    by_cases e2 : n < a ∧ a < n + (m + 1)
    · rw [if_pos e2] at hN
      cases hN
    · rw [if_neg e2] at hN
      have := h a k b (by omega) hN
      omega
section GMN
variable {T : HT} {X : HX} {ad : Nat → Nat} {n mc ms : Nat} {I : HI} {J : HJ} {N : HN} {Q : State → Prop} {pc nL : Nat} {cc : ByteArray} {own : String} {ret : Option FieldType} {rm : Room} {lvf : (Nat → Nat) → List (Nat × Value)} {stf : (Nat → Nat) → List Value}
theorem g_mna {m len idx κ : Nat} {x y : Int32} {ft : FieldType} {aw : String} (C : Cx X cc own nL ret rm) (hk : (κ = 3 ∧ ft = .int ∧ aw = "[[I") ∨ (κ = 4 ∧ ft = .long ∧ aw = "[[J")) (w1 : Cond.arrayClass ft ∈ lw_g) (w2 : Cond.classLink own idx aw ∈ lw_g) (w3 : Cond.arrayOver (.array ft) ∈ lw_tbl) (hT : T n = (κ, m)) (hT1 : ∀ i, i < m → T (n + 1 + i) = (κ - 2, len)) (hno : nok n N) (hx : ¬ x < 0) (hy : ¬ y < 0) (hxl : x.toNatClampNeg = m) (hyl : y.toNatClampNeg = len) (hb : m * 4 ≤ 536870912 ∧ len * 8 ≤ 536870912) (hR : mc + (1 + m) ≤ rm.cells ∧ ms + (m + m * len) ≤ rm.slots) (d : decode cc pc = .ok (.multianewarray idx 2, 4))
    (hl9 : ∀ ad', (∀ i, i < n → ad' i = ad i) → lvf ad' = lvf ad) (hs9 : ∀ ad', (∀ i, i < n → ad' i = ad i) → stf ad' = stf ad)
    (k : ∀ ad', (∀ i, i < n → ad' i = ad i) → G T X ad' (n + (m + 1)) (mc + 1 + m) (ms + m + m * len) (mzI I n m) (mzJ J n m) (mzN N n m) Q (pc + 4) nL (lvf ad') (.ref (ad' n) :: stf ad')) : G T X ad n mc ms I J N Q pc nL (lvf ad) (.int y :: .int x :: stf ad) := fun H locs ls hP hD hS hl => by
  have eR := C.2.2.2.2.2.2.2.2.2.1
  have key : ∀ (a0 : vp_A) (q : Nat) (r : Nat → Nat) (H1 : Heap) (cA cB : ClassId) (f : Nat → va_E), (∀ a1 : Nat → Nat, (∀ i, i < m → a1 (n + 1 + i) = r i) → gce T (xy X) a1 (mzI I n m) (mzJ J n m) (mzN N n m) n = .inl (cA, m, .inr (.inr (.inr (.inr (fun i => if i < m then some (r i) else none)))))) → (∀ (a1 : Nat → Nat) (i : Nat), i < m → gce T (xy X) a1 (mzI I n m) (mzJ J n m) (mzN N n m) (n + 1 + i) = .inl (cB, a0)) → va_P (xD X) gcl ((gwd T (xy X) ad n I J N ++ [(q, .inl (cA, m, .inr (.inr (.inr (.inr (fun i => if i < m then some (r i) else none))))))]) ++ va_pl ([] ++ (List.range m).map r) (vr_up f ((List.range m).map r) (.inl (cB, a0)))) H1 → va_D (xA X) ((gwd T (xy X) ad n I J N ++ [(q, .inl (cA, m, .inr (.inr (.inr (.inr (fun i => if i < m then some (r i) else none))))))]) ++ va_pl ([] ++ (List.range m).map r) (vr_up f ((List.range m).map r) (.inl (cB, a0)))) → va_S (xA X) (xs X).heap H1 locs → W (xp X) (xl X) (xe X) (xR X) (xs X) (xm X) (xa X) (xb X) (xt X) (xc X) H1 locs (mc + 1 + m) (ms + m + m * len) Q (F0 (xm X) (pc + 4) ls (.ref q :: stf ad)) := by
    intro a0 q r H1 cA cB f hg0 hg1 hP1 hD1 hS1
    obtain ⟨a1, ha1⟩ : ∃ a1 : Nat → Nat, a1 = fun i => if i < n then ad i else if i = n then q else r (i - n - 1) := ⟨_, rfl⟩
    have hA : ∀ i, i < n → a1 i = ad i := fun i hi => by rw [ha1]; exact if_pos hi
    have hq : a1 n = q := by rw [ha1]; simp
    have hrr : ∀ i, i < m → a1 (n + 1 + i) = r i := fun i _ => by
      rw [ha1]
      show (if n + 1 + i < n then _ else if n + 1 + i = n then _ else r (n + 1 + i - n - 1)) = _
      rw [if_neg (by omega), if_neg (by omega)]
      congr 1
      omega
    have hg : gwd T (xy X) a1 (n + (m + 1)) (mzI I n m) (mzJ J n m) (mzN N n m) = (gwd T (xy X) ad n I J N ++ [(q, .inl (cA, m, .inr (.inr (.inr (.inr (fun i => if i < m then some (r i) else none))))))]) ++ va_pl ([] ++ (List.range m).map r) (vr_up f ((List.range m).map r) (.inl (cB, a0))) := by
      rw [gwd_ext hA (fun a ha => mzI_lt ha) (fun a ha => mzJ_lt ha) (fun a ha => mzN_lt ha) hno, List.append_assoc]
      congr 1
      rw [List.range_succ_eq_map, List.map_cons, List.map_map]
      show (a1 (n + 0), gce T (xy X) a1 _ _ _ (n + 0)) :: _ = [_] ++ _
      rw [Nat.add_zero, hq, hg0 a1 hrr, List.singleton_append, List.nil_append]
      congr 1
      unfold va_pl
      rw [List.map_map]
      apply List.map_congr_left
      intro i hi
      have hi := List.mem_range.mp hi
      show (a1 (n + (i + 1)), gce T (xy X) a1 _ _ _ (n + (i + 1))) = (r i, vr_up f _ _ (r i))
      rw [show n + (i + 1) = n + 1 + i by omega, hrr i hi, hg1 a1 i hi, vr_up_in (List.mem_map.mpr ⟨i, List.mem_range.mpr hi, rfl⟩)]
    rw [← hg] at hP1 hD1
    have k1 := k a1 hA H1 locs ls hP1 (D_gin hD1) hS1 (by rw [hl9 _ hA]; exact hl)
    rw [hq, hs9 _ hA] at k1
    exact k1
  have hout : ∀ (a1 r : Nat → Nat), (∀ i, i < m → a1 (n + 1 + i) = r i) → (fun j => (mzN N n m n j).map a1) = (fun i => if i < m then some (r i) else none) := by
    intro a1 r hr
    funext j
    rw [mzN_at]
    by_cases hj : j < m
    · simp only [hj, if_true, Option.map, hr j hj]
    · simp only [hj, if_false, Option.map]
  rcases hk with ⟨rfl, rfl, rfl⟩ | ⟨rfl, rfl, rfl⟩
  · have e2 : (xs X).vm.findClass ("[" ++ (FieldType.array .int).toString) = some (xy X 2) := (C.2.2.2.2.2.2.2.1.2 2 _ rfl).2
    have e0 : (xs X).vm.findClass (FieldType.array .int).toString = some (xy X 0) := (C.2.2.2.2.2.2.2.1.2 0 _ rfl).2
    refine va_mna (X := gwd T (xy X) ad n I J N) (L := []) (f := fun _ => .inr (0, [])) (ty := .int) (cy := xy X 0) (z := (len, .inl (fun _ => 0))) C.1 C.2.1 C.2.2.2.1 (C.2.2.2.2.1 _ w2) (by have h9 := C.2.2.2.2.2.2.2.2.2.2 _ w3 rfl; exact h9) (C.2.2.2.2.1 _ w1) e0 C.2.2.2.2.2.2.2.1 (by rw [show va_pl [] _ = ([] : va_W) from rfl, List.append_nil]; exact hP) (by rw [show va_pl [] _ = ([] : va_W) from rfl, List.append_nil]; exact gin_D hD T _ I J N) hS C.2.2.2.2.2.2.2.2.1 hx hy hxl hyl hb.1 (by show len * 4 ≤ _; omega) (by omega) rfl rfl (by rw [eR]; exact hR.1) (by rw [eR]; exact hR.2) (fun c9 => arrV_new c9 len (.int 0)) d (fun q r cA H1 hri hrl hK1 hP1 hD1 hS1 => ?_)
    have e1 : (xs X).vm.findClass ("[" ++ (FieldType.array .int).toString) = some cA := (hK1.2 4 _ rfl).2
    have e3 : xy X 2 = cA := Option.some.inj (e2.symm.trans e1)
    subst e3
    exact key _ q r H1 _ _ _ (fun a1 ha1 => by rw [gce_a (n := n + 1) ⟨Nat.lt_succ_self n, by rw [hT]⟩, hT, hout a1 r ha1]) (fun a1 i hi => by rw [gce_i (n := n + 2 + i) ⟨by omega, by rw [hT1 i hi]⟩, hT1 i hi, mzI_in hi]) hP1 hD1 hS1
  · have e2 : (xs X).vm.findClass ("[" ++ (FieldType.array .long).toString) = some (xy X 3) := (C.2.2.2.2.2.2.2.1.2 3 _ rfl).2
    have e0 : (xs X).vm.findClass (FieldType.array .long).toString = some (xy X 1) := (C.2.2.2.2.2.2.2.1.2 1 _ rfl).2
    refine va_mna (X := gwd T (xy X) ad n I J N) (L := []) (f := fun _ => .inr (0, [])) (ty := .long) (cy := xy X 1) (z := (len, .inr (.inl (fun _ => 0)))) C.1 C.2.1 C.2.2.2.1 (C.2.2.2.2.1 _ w2) (by have h9 := C.2.2.2.2.2.2.2.2.2.2 _ w3 rfl; exact h9) (C.2.2.2.2.1 _ w1) e0 C.2.2.2.2.2.2.2.1 (by rw [show va_pl [] _ = ([] : va_W) from rfl, List.append_nil]; exact hP) (by rw [show va_pl [] _ = ([] : va_W) from rfl, List.append_nil]; exact gin_D hD T _ I J N) hS C.2.2.2.2.2.2.2.2.1 hx hy hxl hyl hb.1 (by show len * 8 ≤ _; omega) (by omega) rfl rfl (by rw [eR]; exact hR.1) (by rw [eR]; exact hR.2) (fun c9 => arrV_new c9 len (.long 0)) d (fun q r cA H1 hri hrl hK1 hP1 hD1 hS1 => ?_)
    have e1 : (xs X).vm.findClass ("[" ++ (FieldType.array .long).toString) = some cA := (hK1.2 4 _ rfl).2
    have e3 : xy X 3 = cA := Option.some.inj (e2.symm.trans e1)
    subst e3
    exact key _ q r H1 _ _ _ (fun a1 ha1 => by rw [gce_b (n := n + 1) ⟨Nat.lt_succ_self n, by rw [hT]⟩, hT, hout a1 r ha1]) (fun a1 i hi => by rw [gce_l (n := n + 2 + i) ⟨by omega, by rw [hT1 i hi]⟩, hT1 i hi, mzJ_in hi]) hP1 hD1 hS1
end GMN
