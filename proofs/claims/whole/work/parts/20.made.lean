/-! ===== BEGIN new T[n][m]: the outer array a place, the inner ones among the pooled ===== -/
/-- f, but v at every address of l -/
def vr_up {α : Type} (f : Nat → α) (l : List Nat) (v : α) : Nat → α := fun a => if a ∈ l then v else f a
theorem vr_up_in {α : Type} {f : Nat → α} {l : List Nat} {v : α} {a : Nat} (h : a ∈ l) : vr_up f l v a = v := if_pos h
theorem vr_up_ne {α : Type} {f : Nat → α} {l : List Nat} {v : α} {a : Nat} (h : a ∉ l) : vr_up f l v a = f a := if_neg h
theorem vr_rows {L l : List Nat} {f : Nat → va_E} {e : va_E} (h : ∀ a, a ∈ l → a ∉ L) : va_pl L f ++ l.map (fun a => (a, e)) = va_pl (L ++ l) (vr_up f l e) := by
  unfold va_pl
  rw [List.map_append]
  congr 1
  · apply List.map_congr_left
    intro a ha
    rw [vr_up_ne (fun q => h a q ha)]
  · apply List.map_congr_left
    intro a ha
    rw [vr_up_in ha]
theorem vr_lay {X rows : va_W} {x : Nat × va_E} {pl : va_W} {D : va_G} {cl : List vw_C} {H : Heap} (hP : va_P D cl (((X ++ pl) ++ [x]) ++ rows) H) : va_P D cl ((X ++ [x]) ++ (pl ++ rows)) H := by
  rw [List.append_assoc (X ++ pl)] at hP
  have h := va_P.swap hP
  rw [← List.append_assoc X] at h
  have h2 := va_P.swap h
  rw [List.append_assoc (X ++ [x])] at h2
  exact h2
theorem vr_layD {X rows : va_W} {x : Nat × va_E} {pl : va_W} {A : Nat → Prop} (hD : va_D A (((X ++ pl) ++ [x]) ++ rows)) : va_D A ((X ++ [x]) ++ (pl ++ rows)) := by
  rw [List.append_assoc (X ++ pl)] at hD
  have h := va_D.swap hD
  rw [← List.append_assoc X] at h
  have h2 := va_D.swap h
  rw [List.append_assoc (X ++ [x])] at h2
  exact h2
theorem vr_outer (c : ClassId) (N h0 : Nat) : ∀ i : Nat, Jvm.Free.Multi.outerC c N h0 i = arrV c N (fun j => va_rf (if j < i then some (h0 + 1 + j) else none))
  | 0 => by
    show ({ cls := c, slots := Array.replicate N .null, vm := .none } : Cell) = _
    rw [arrV_new]
    refine congrArg (arrV c N) (funext fun j => ?_)
    simp [va_rf]
  | i + 1 => by
    show (Jvm.Free.Multi.outerC c N h0 i).setSlot i (.ref (h0 + 1 + i)) = _
    rw [vr_outer c N h0 i, arrV_store]
    refine congrArg (arrV c N) (funext fun j => ?_)
    by_cases e : j = i
    · subst e
      simp [updV, va_rf]
    · by_cases h : j < i
      · simp [updV, e, h, Nat.lt_succ_of_lt h]
      · simp [updV, e, h, show ¬ j < i + 1 by omega]
section VGM
variable {p : Program} {l : Launch} {e : Env} {R : Room} {s : State} {m : MethodId} {args : Array Value} {below : List Frame} {meth : Method} {c : Code} {H : Heap} {locs : List Loc} {cells slots : Nat} {Q : State → Prop}
variable {cc : ByteArray} {pc : Nat} {ls : Array Slot} {rest : List Value} {D : va_G} {cl : List vw_C} {A : Nat → Prop} {a : Nat} {tys : List (ClassId × FieldType)} {ws : va_W} {H0 : Heap}
theorem va_mna {X : va_W} {L : List Nat} {f : Nat → va_E} {cc : ByteArray} (hexec : p.tables.exec = Jvm.exec) (hb : c.code = cc) {own : String} {index : Nat} {ty : FieldType} {cy : ClassId} (hown : s.vm.findClass own = some m.cls) (hclink : (Cond.classLink own index ("[" ++ (FieldType.array ty).toString)).before args s = true) (hover : (Cond.arrayOver (.array ty)).before args s = true) (harr : (Cond.arrayClass ty).before args s = true) (hcy : s.vm.findClass (FieldType.array ty).toString = some cy)
    (hK : va_K D cl tys s) (hP : va_P D cl (X ++ va_pl L f) H) (hD : va_D A (X ++ va_pl L f)) (hS : va_S A H0 H locs) (hA : ∀ q, H0.size ≤ q → A q) {n k : Int32} {N' K' : Nat} {z : vp_A} (hn : ¬ n < 0) (hk : ¬ k < 0) (hN : n.toNatClampNeg = N') (hM : k.toNatClampNeg = K')
    (hb1 : N' * 4 ≤ 536870912) (hb2 : K' * componentBytes ty ≤ 536870912) (hb3 : K' ≤ 536870912) (hdf : fits ty (defaultValue ty) = true) (hdd : (defaultValue ty).isDefault = true) (hcells : cells + (1 + N') ≤ R.cells) (hslots : slots + (N' + N' * K') ≤ R.slots) (hz : ∀ c : ClassId, Jvm.Free.Multi.innerC c K' (defaultValue ty) = vp_cell c z) (hdg : decode cc pc = .ok (.multianewarray index 2, 4))
    (kk : ∀ (q : Nat) (r : Nat → Nat) (cA : ClassId) (H1 : Heap), (∀ i j : Nat, i < N' → j < N' → r i = r j → i = j) → (∀ i : Nat, i < N' → r i ∉ L) → va_K D cl (tys ++ [(cA, .array ty)]) s →
      va_P D cl ((X ++ [(q, .inl (cA, N', .inr (.inr (.inr (.inr (fun i => if i < N' then some (r i) else none))))))]) ++ va_pl (L ++ (List.range N').map r) (vr_up f ((List.range N').map r) (.inl (cy, z)))) H1 → va_D A ((X ++ [(q, .inl (cA, N', .inr (.inr (.inr (.inr (fun i => if i < N' then some (r i) else none))))))]) ++ va_pl (L ++ (List.range N').map r) (vr_up f ((List.range N').map r) (.inl (cy, z)))) → va_S A H0 H1 locs →
      W p l e R s m args below meth c H1 locs (cells + 1 + N') (slots + N' + N' * K') Q (F0 m (pc + 4) ls (.ref q :: rest))) : W p l e R s m args below meth c H locs cells slots Q (F0 m pc ls (.int k :: .int n :: rest)) := by
  subst hN
  subst hM
  intro T hT Xs
  obtain ⟨vm₁, cA, comp, -, fA, fC, hO, -, X', step⟩ := Xs.multianewarray2F hexec hown hclink hover harr (g := F0 m pc ls (.int k :: .int n :: rest)) rfl (by rw [hb]; exact hdg) rfl hn hk hb1 hb2 hb3 hdf hdd hcells hslots
  have ec : some cy = some comp := hcy.symm.trans fC
  cases ec
  generalize hF : Jvm.Free.Multi.fill (T.setVm vm₁) cA cy n.toNatClampNeg k.toNatClampNeg (defaultValue ty) n.toNatClampNeg = F at X' step
  have hTh : (T.setVm vm₁).heap = H := hT
  obtain ⟨f1, f2, -, -⟩ := Jvm.Free.Multi.fill_facts (T.setVm vm₁) cA cy n.toNatClampNeg k.toNatClampNeg (defaultValue ty) n.toNatClampNeg
  rw [hF, hTh] at f1 f2
  have hold : ∀ x : Nat, x < H.size → F.heap[x]? = H[x]? := fun x hx => by
    have := Jvm.Free.Multi.fill_old (T.setVm vm₁) cA cy n.toNatClampNeg k.toNatClampNeg (defaultValue ty) (a := x) (by rw [hTh]; exact hx) n.toNatClampNeg
    rw [hF, hTh] at this
    exact this
  have hrow : ∀ j : Nat, j < n.toNatClampNeg → F.heap[H.size + 1 + j]? = some (vp_cell cy z) := fun j hj => by
    have := Jvm.Free.Multi.fill_inner (T.setVm vm₁) cA cy n.toNatClampNeg k.toNatClampNeg (defaultValue ty) n.toNatClampNeg j hj
    rw [hF, hTh, hz] at this
    exact this
  have hout : Jvm.Free.Multi.outerC cA n.toNatClampNeg H.size n.toNatClampNeg = vp_cell cA (n.toNatClampNeg, .inr (.inr (.inr (.inr (fun i => if i < n.toNatClampNeg then some (H.size + 1 + i) else none))))) := by
    rw [vp_cell_q]
    exact vr_outer cA n.toNatClampNeg H.size n.toNatClampNeg
  rw [hout] at f2
  have hlt : ∀ a, a ∈ L → a < H.size := fun a ha => by
    obtain ⟨k9, hk9⟩ := va_pl_get (X := X) (f := f) ha
    exact (hP k9 _ hk9).lt
  have hnl : ∀ i : Nat, i < n.toNatClampNeg → H.size + 1 + i ∉ L := fun i _ h => by
    have := hlt _ h
    omega
  have hnm : ∀ a, a ∈ (List.range n.toNatClampNeg).map (fun i => H.size + 1 + i) → a ∉ L := fun a ha h => by
    obtain ⟨i, -, rfl⟩ := List.mem_map.mp ha
    have := hlt _ h
    omega
  have hP0 : va_P D cl (X ++ va_pl L f) F.heap := hP.kept (fun k9 x hx => hold x.1 ((hP k9 x hx).lt))
  have hP1 : va_P D cl ((X ++ va_pl L f) ++ [(H.size, .inl (cA, n.toNatClampNeg, .inr (.inr (.inr (.inr (fun i => if i < n.toNatClampNeg then some (H.size + 1 + i) else none))))))]) F.heap := hP0.app (fun k9 x hx => by
    have h0 : k9 < 1 := (List.getElem?_eq_some_iff.mp hx).1
    rw [show k9 = 0 by omega] at hx
    cases hx
    exact f2)
  have hP2 : va_P D cl (((X ++ va_pl L f) ++ [(H.size, .inl (cA, n.toNatClampNeg, .inr (.inr (.inr (.inr (fun i => if i < n.toNatClampNeg then some (H.size + 1 + i) else none))))))]) ++ ((List.range n.toNatClampNeg).map (fun i => H.size + 1 + i)).map (fun a => (a, .inl (cy, z)))) F.heap := hP1.app (fun k9 x hx => by
    obtain ⟨a, ha, rfl⟩ := List.mem_map.mp (List.mem_of_getElem? hx)
    obtain ⟨i, hi, rfl⟩ := List.mem_map.mp ha
    exact hrow i (List.mem_range.mp hi))
  have hD2 : va_D A (((X ++ va_pl L f) ++ [(H.size, .inl (cA, n.toNatClampNeg, .inr (.inr (.inr (.inr (fun i => if i < n.toNatClampNeg then some (H.size + 1 + i) else none))))))]) ++ ((List.range n.toNatClampNeg).map (fun i => H.size + 1 + i)).map (fun a => (a, .inl (cy, z)))) := by
    have hD1 := hD.push (e := .inl (cA, n.toNatClampNeg, .inr (.inr (.inr (.inr (fun i => if i < n.toNatClampNeg then some (H.size + 1 + i) else none)))))) hP rfl (hA _ hS.1)
    generalize hW1 : (X ++ va_pl L f) ++ [(H.size, .inl (cA, n.toNatClampNeg, .inr (.inr (.inr (.inr (fun i => if i < n.toNatClampNeg then some (H.size + 1 + i) else none))))))] = W1 at hD1 hP1 ⊢
    have hle : ∀ (k9 : Nat) (x : Nat × va_E), W1[k9]? = some x → x.1 ≤ H.size := fun k9 x hx => by
      rw [← hW1] at hx
      by_cases hl : k9 < (X ++ va_pl L f).length
      · rw [List.getElem?_append_left hl] at hx
        exact Nat.le_of_lt ((hP k9 x hx).lt)
      · rw [List.getElem?_append_right (by omega)] at hx
        have h0 : k9 - (X ++ va_pl L f).length < 1 := (List.getElem?_eq_some_iff.mp hx).1
        rw [show k9 - (X ++ va_pl L f).length = 0 by omega] at hx
        cases hx
        exact Nat.le_refl _
    have hr : ∀ (k9 : Nat) (x : Nat × va_E), (((List.range n.toNatClampNeg).map (fun i => H.size + 1 + i)).map (fun a => ((a, .inl (cy, z)) : Nat × va_E)))[k9]? = some x → x.1 = H.size + 1 + k9 := fun k9 x hx => by
      rw [List.getElem?_map, List.getElem?_map] at hx
      by_cases h9 : k9 < n.toNatClampNeg
      · rw [List.getElem?_range h9] at hx
        cases hx
        rfl
      · have hn0 : (List.range n.toNatClampNeg)[k9]? = none := List.getElem?_eq_none (by rw [List.length_range]; omega)
        rw [hn0] at hx
        cases hx
    refine ⟨fun i j x y hi hj hxy => ?_, fun k9 x hx => ?_⟩
    · by_cases h1 : i < W1.length <;> by_cases h2 : j < W1.length
      · rw [List.getElem?_append_left h1] at hi
        rw [List.getElem?_append_left h2] at hj
        exact hD1.1 i j x y hi hj hxy
      · rw [List.getElem?_append_left h1] at hi
        rw [List.getElem?_append_right (by omega)] at hj
        have := hle _ _ hi
        have := hr _ _ hj
        omega
      · rw [List.getElem?_append_right (by omega)] at hi
        rw [List.getElem?_append_left h2] at hj
        have := hle _ _ hj
        have := hr _ _ hi
        omega
      · rw [List.getElem?_append_right (by omega)] at hi hj
        have := hr _ _ hi
        have := hr _ _ hj
        omega
    · by_cases h1 : k9 < W1.length
      · rw [List.getElem?_append_left h1] at hx
        exact hD1.2 k9 x hx
      · rw [List.getElem?_append_right (by omega)] at hx
        have := hr _ _ hx
        exact hA _ (by have := hS.1; omega)
  have hAr : ArrOfT s cA (.array ty) := fun N9 z9 => by
    obtain ⟨-, k9, hk9, cm9, hkk9⟩ := (hO 0 0 0).1
    exact ⟨(fun q hq => by cases hq), k9, hk9, cm9, hkk9⟩
  have hK2 : va_K D cl (tys ++ [(cA, .array ty)]) s := ⟨hK.1, fun k9 x hx => by
    by_cases hl : k9 < tys.length
    · rw [List.getElem?_append_left hl] at hx
      exact hK.2 k9 x hx
    · rw [List.getElem?_append_right (by omega)] at hx
      have h0 : k9 - tys.length < 1 := (List.getElem?_eq_some_iff.mp hx).1
      rw [show k9 - tys.length = 0 by omega] at hx
      cases hx
      exact ⟨hAr, fA⟩⟩
  obtain ⟨t, a1, b1⟩ := kk H.size (fun i => H.size + 1 + i) cA F.heap (fun i j _ _ h => by have h9 : H.size + 1 + i = H.size + 1 + j := h; omega) hnl hK2 (by rw [← vr_rows hnm]; exact vr_lay hP2) (by rw [← vr_rows hnm]; exact vr_layD hD2) ⟨by rw [f1]; have := hS.1; omega, fun x h1 h2 => (hold x (Nat.lt_of_lt_of_le h1 hS.1)).trans (hS.2.1 x h1 h2), hS.2.2⟩ F rfl X'
  refine ⟨t, step t ?_, b1⟩
  have e : T.heap.size = H.size := by rw [hT]
  rw [e]
  exact a1
end VGM
def nok (n : Nat) (N : HN) : Prop := ∀ a k b, a < n → N a k = some b → b < n
theorem nok_up {n : Nat} {N : HN} {a k b : Nat} (h : nok n N) (hb : b < n) : nok n (up2 N a k (some b)) := by
  intro a' k' b' ha' hN
  by_cases e : a' = a
  · subst e
    rw [up2_at] at hN
    by_cases e2 : k' = k
    · subst e2
      rw [va_up_at] at hN
      cases hN
      exact hb
    · rw [va_up_of e2] at hN
      exact h a' k' b' ha' hN
  · rw [up2_of e] at hN
    exact h a' k' b' ha' hN
theorem nok_new {n : Nat} {N : HN} (h : nok n N) : nok (n + 1) (va_up N n (fun _ => none)) := by
  intro a' k' b' ha' hN
  by_cases e : a' = n
  · subst e
    rw [va_up_at] at hN
    cases hN
  · rw [va_up_of e] at hN
    exact Nat.lt_succ_of_lt (h a' k' b' (by omega) hN)
theorem gob_ad {ad ad' : Nat → Nat} {I : HI} {J : HJ} {N : HN} {a : Nat} (h : ∀ k, (N a k).map ad' = (N a k).map ad) (c : Nat) : gob ad' I J N c a = gob ad I J N c a := by
  unfold gob
  split <;> simp only [h]
theorem gce_ad {T : HT} {y : Nat → ClassId} {ad ad' : Nat → Nat} {I : HI} {J : HJ} {N : HN} {a : Nat} (h : ∀ k, (N a k).map ad' = (N a k).map ad) : gce T y ad' I J N a = gce T y ad I J N a := by
  unfold gce
  rw [gob_ad h]
  simp only [h]
theorem gwd_ext {T : HT} {y : Nat → ClassId} {ad ad' : Nat → Nat} {n m : Nat} {I I' : HI} {J J' : HJ} {N N' : HN} (hA : ∀ i, i < n → ad' i = ad i) (hI : ∀ a, a < n → I' a = I a) (hJ : ∀ a, a < n → J' a = J a) (hN : ∀ a, a < n → N' a = N a) (hno : nok n N) : gwd T y ad' (n + m) I' J' N' = gwd T y ad n I J N ++ (List.range m).map (fun i => (ad' (n + i), gce T y ad' I' J' N' (n + i))) := by
  unfold gwd
  rw [List.range_add, List.map_append, List.map_map]
  congr 1
  apply List.map_congr_left
  intro a ha
  have ha := List.mem_range.mp ha
  rw [hA a ha, gce_congr (hI a ha) (hJ a ha) (hN a ha), gce_ad (fun k => ?_)]
  cases hk : N a k with
  | none => rfl
  | some b => exact congrArg some (hA b (hno a k b ha hk))
theorem D_gin {A : Nat → Prop} {T : HT} {y : Nat → ClassId} {ad : Nat → Nat} {n : Nat} {I : HI} {J : HJ} {N : HN} (h : va_D A (gwd T y ad n I J N)) : gin A ad n := ⟨fun i j hi hj e => h.1 i j _ _ (gwd_at hi) (gwd_at hj) e, fun i hi => h.2 i _ (gwd_at hi)⟩
def gQn (T : HT) (D : va_G) (y : Nat → ClassId) (ad : Nat → Nat) (n : Nat) (A : Nat → Prop) (n' : Nat) (I' : HI) (J' : HJ) (N' : HN) : Array Value → State → Outcome → State → Prop := fun _ st oc t =>
  (∃ ad' : Nat → Nat, (∀ i, i < n → ad' i = ad i) ∧ gin A ad' n' ∧ oc = .returned none ∧ va_P D gcl (gwd T y ad' n' I' J' N') t.heap) ∧ va_F A st t
def gMn (l : Launch) (y : MethodName) (cc : ByteArray) (nL : Nat) (rm : Room) (T : HT) (n : Nat) (I : HI) (J : HJ) (N : HN) (av : (Nat → Nat) → List Value) (n' : Nat) (I' : HI) (J' : HJ) (N' : HN) (mc ms : Nat) : Prop :=
  n ≤ n' ∧ nok n' N' ∧ ∀ (D : va_G) (yc : Nat → ClassId) (ad : Nat → Nat) (sz : Nat), Met l y (Cond.code y cc nL none :: lw_g) rm (gPc T D yc ad n sz I J N (av ad)) (gQn T D yc ad n (gA ad n sz) n' I' J' N') mc ms (gA ad n sz)
def gEn (X : HX) (T : HT) (ad : Nat → Nat) (n : Nat) (n' : Nat) (I' : HI) (J' : HJ) (N' : HN) (mc ms : Nat) : State → Prop := MQ (xb X) (gQn T (xD X) (xy X) ad n (xA X) n' I' J' N') (xa X) (xs X) mc ms (xA X)
theorem g_methn {l : Launch} {y : MethodName} {cc : ByteArray} {nL : Nat} {rm : Room} {T : HT} {n n' mc ms : Nat} {I I' : HI} {J J' : HJ} {N N' : HN} {av : (Nat → Nat) → List Value} {lv : (Nat → Nat) → List (Nat × Value)} (hy : plainName y.cls = true) (hlen : ∀ ad, (lg_sl (av ad)).length ≤ nL) (hlv : ∀ ad, lv_args 0 (av ad) = lv ad) (hn : n ≤ n') (hno : nok n' N')
    (body : ∀ (X : HX) (ad : Nat → Nat), Cx X cc y.cls nL none rm → (xt X).name = y.name → G T X ad n 0 0 I J N (gEn X T ad n n' I' J' N' mc ms) 0 nL (lv ad) []) : gMn l y cc nL rm T n I J N av n' I' J' N' mc ms := by
  refine ⟨hn, hno, ?_⟩
  intro D yc ad sz
  refine Met.ofW (cc := cc) (maxL := nL) (ret := none) hy rfl ?_
  intro p e s m args below meth c s₁ B hml hv
  obtain ⟨rfl, hsz, hP, hK, hnw, hinj⟩ := hv
  subst hsz
  have hts := atoms_spec (ws := Cond.code y cc nL none :: lw_g) B.pre
  have hl := lv_entry (av ad) (n := nL) (hlen ad)
  rw [lg_entry_eq]
  rw [hlv ad] at hl
  exact body (p, l, e, rm, s, m, (av ad).toArray, below, meth, c, D, yc, gA ad n s.heap.size) ad ⟨B.exec, B.bytes, hml, findClass_of_methodNamed B.named, fun w hw => hts w (List.mem_cons_of_mem _ hw), B.returns, B.notSynchronized, hK, fun q h => Or.inr h, rfl, hnw⟩ (name_of_methodNamed B.named B.method).1 s.heap [] _ hP ⟨hinj, fun i hi => Or.inl ⟨i, hi, rfl⟩⟩ va_S.rf hl
section GN
variable {T : HT} {X : HX} {ad : Nat → Nat} {n mc ms : Nat} {I : HI} {J : HJ} {N : HN} {Q : State → Prop} {pc nL : Nat} {cc : ByteArray} {own : String} {ret : Option FieldType} {rm : Room} {lvf : (Nat → Nat) → List (Nat × Value)} {stf : (Nat → Nat) → List Value}
theorem g_vretn {lv : List (Nat × Value)} {ad0 : Nat → Nat} {n0 : Nat} (C : Cx X cc own nL none rm) (hA : ∀ i, i < n0 → ad i = ad0 i) (d : decode cc pc = .ok (.return_, 1)) : G T X ad n mc ms I J N (gEn X T ad0 n0 n I J N mc ms) pc nL lv [] := fun H locs ls hP hD hS hl =>
  W.vret C.1 C.2.1 C.2.2.2.2.2.1 (fun t ht hW => ⟨⟨ad, hA, hD, rfl, by rw [ht]; exact hP⟩, hS.F ht⟩) hS.2.2 d C.2.2.2.2.2.2.1
theorem g_objInit {lv : List (Nat × Value)} {rest : List Value} {a idx : Nat} (C : Cx X cc own nL ret rm) (w1 : Cond.methodLink own idx Lib.objectInit ∈ lw_g) (w2 : Cond.instanceMethod Lib.objectInit ∈ lw_g) (w3 : Cond.code Lib.objectInit ⟨#[0xb1]⟩ 1 none ∈ lw_g) (hR : 1 ≤ rm.frames ∧ (rest.map fun v => v.category).sum + 12 ≤ rm.locals) (d : decode cc pc = .ok (.invokespecial idx, 3)) (k : G T X ad n mc ms I J N Q (pc + 3) nL lv rest) : G T X ad n mc ms I J N Q pc nL lv (.ref a :: rest) := fun H locs ls hP hD hS hl => by
  have eR := C.2.2.2.2.2.2.2.2.2.1
  refine W.objInit C.1 C.2.1 C.2.2.2.1 (C.2.2.2.2.1 _ w1) (C.2.2.2.2.1 _ w2) (C.2.2.2.2.1 _ w3) rfl (by rw [C.2.2.1]; exact hl.1) rfl d (by rw [eR]; exact hR.1) ?_ (k H locs ls hP hD hS hl)
  rw [eR]
  show 2 * (F0 (xm X) pc ls (.ref a :: rest)).monitorRoom + _ + 12 ≤ _
  have : (F0 (xm X) pc ls (.ref a :: rest)).monitorRoom = 0 := rfl
  rw [this]
  have := hR.2
  omega
theorem g_new {ci idx NF : Nat} {Cn : String} {TF : u_T} {ty0 : Nat → FieldType} (C : Cx X cc own nL ret rm) (hc : gcl[ci]? = some (Cn, TF, NF)) (hin : ∀ w ∈ u_ws Cn TF NF, w ∈ lw_g) (hty : ∀ k, k < NF → parseFieldDescriptor (TF k).2.2.1 = some (ty0 k)) (w1 : Cond.classLink own idx Cn ∈ lw_g) (w2 : Cond.instantiable Cn NF ∈ lw_g) (w3 : Cond.initialized Cn ∈ lw_g) (hT : T n = (0, ci)) (hno : nok n N) (hz : ∀ (ad : Nat → Nat) (j : Nat), j < NF → defaultValue (ty0 j) = vp_V (gob ad (va_up I n (fun _ => 0)) (va_up J n (fun _ => 0)) (va_up N n (fun _ => none)) ci n) j) (hR : mc + 1 ≤ rm.cells ∧ ms + NF ≤ rm.slots) (d : decode cc pc = .ok (.new idx, 3))
    (hl9 : ∀ ad', (∀ i, i < n → ad' i = ad i) → lvf ad' = lvf ad) (hs9 : ∀ ad', (∀ i, i < n → ad' i = ad i) → stf ad' = stf ad)
    (k : ∀ ad', (∀ i, i < n → ad' i = ad i) → G T X ad' (n + 1) (mc + 1) (ms + NF) (va_up I n (fun _ => 0)) (va_up J n (fun _ => 0)) (va_up N n (fun _ => none)) Q (pc + 3) nL (lvf ad') (.ref (ad' n) :: stf ad')) : G T X ad n mc ms I J N Q pc nL (lvf ad) (stf ad) := fun H locs ls hP hD hS hl => by
  have eR := C.2.2.2.2.2.2.2.2.2.1
  refine va_new (fs := gob (va_up ad n H.size) (va_up I n (fun _ => 0)) (va_up J n (fun _ => 0)) (va_up N n (fun _ => none)) ci n) C.1 C.2.1 C.2.2.2.2.1 hin ty0 hty C.2.2.2.1 (C.2.2.2.2.1 _ w1) (C.2.2.2.2.1 _ w2) (C.2.2.2.2.1 _ w3) C.2.2.2.2.2.2.2.1 hP (gin_D hD T _ I J N) hS C.2.2.2.2.2.2.2.2.1 hc (fun j hj => hz _ j hj) (by rw [eR]; exact hR.1) (by rw [eR]; exact hR.2) d (fun q H1 hP1 hD1 hS1 => ?_)
  have hA : ∀ i, i < n → va_up ad n q i = ad i := fun i hi => va_up_of (Nat.ne_of_lt hi)
  have hgo : ∀ (a1 a2 : Nat → Nat), gob a1 (va_up I n (fun _ => 0)) (va_up J n (fun _ => 0)) (va_up N n (fun _ => none)) ci n = gob a2 (va_up I n (fun _ => 0)) (va_up J n (fun _ => 0)) (va_up N n (fun _ => none)) ci n := fun a1 a2 => gob_ad (fun k => by rw [va_up_at]; rfl) ci
  have hg : gwd T (xy X) (va_up ad n q) (n + 1) (va_up I n (fun _ => 0)) (va_up J n (fun _ => 0)) (va_up N n (fun _ => none)) = gwd T (xy X) ad n I J N ++ [(q, .inr (ci, gob (va_up ad n H.size) (va_up I n (fun _ => 0)) (va_up J n (fun _ => 0)) (va_up N n (fun _ => none)) ci n))] := by
    rw [gwd_ext hA (fun a ha => va_up_of (Nat.ne_of_lt ha)) (fun a ha => va_up_of (Nat.ne_of_lt ha)) (fun a ha => va_up_of (Nat.ne_of_lt ha)) hno]
    congr 1
    show [(va_up ad n q (n + 0), gce T (xy X) (va_up ad n q) _ _ _ (n + 0))] = _
    rw [Nat.add_zero, va_up_at, gce_o (n := n + 1) ⟨Nat.lt_succ_self n, hT⟩, hgo (va_up ad n q) (va_up ad n H.size)]
  rw [← hg] at hP1 hD1
  have k1 := k (va_up ad n q) hA H1 locs ls hP1 (D_gin hD1) hS1 (by rw [hl9 _ hA]; exact hl)
  rw [va_up_at, hs9 _ hA] at k1
  exact k1
theorem g_newa {len : Nat} {x : Int32} {κ : Nat} {at_ : ArrayType} {ft : FieldType} (C : Cx X cc own nL ret rm) (hk : (κ = 1 ∧ at_ = .int ∧ ft = .int) ∨ (κ = 2 ∧ at_ = .long ∧ ft = .long)) (w1 : Cond.arrayClass ft ∈ lw_g) (hT : T n = (κ, len)) (hno : nok n N) (hx : ¬ x < 0) (hxl : x.toNatClampNeg = len) (hb : len * 8 ≤ 536870912) (hR : mc + 1 ≤ rm.cells ∧ ms + len ≤ rm.slots) (d : decode cc pc = .ok (.newarray at_, 2))
    (hl9 : ∀ ad', (∀ i, i < n → ad' i = ad i) → lvf ad' = lvf ad) (hs9 : ∀ ad', (∀ i, i < n → ad' i = ad i) → stf ad' = stf ad)
    (k : ∀ ad', (∀ i, i < n → ad' i = ad i) → G T X ad' (n + 1) (mc + 1) (ms + len) (va_up I n (fun _ => 0)) (va_up J n (fun _ => 0)) (va_up N n (fun _ => none)) Q (pc + 2) nL (lvf ad') (.ref (ad' n) :: stf ad')) : G T X ad n mc ms I J N Q pc nL (lvf ad) (.int x :: stf ad) := fun H locs ls hP hD hS hl => by
  have eR := C.2.2.2.2.2.2.2.2.2.1
  have key : ∀ (a0 : vp_A) (q : Nat) (H1 : Heap) (cA : ClassId), gce T (xy X) (va_up ad n q) (va_up I n (fun _ => 0)) (va_up J n (fun _ => 0)) (va_up N n (fun _ => none)) n = .inl (cA, a0) → va_P (xD X) gcl (gwd T (xy X) ad n I J N ++ [(q, .inl (cA, a0))]) H1 → va_D (xA X) (gwd T (xy X) ad n I J N ++ [(q, .inl (cA, a0))]) → va_S (xA X) (xs X).heap H1 locs → W (xp X) (xl X) (xe X) (xR X) (xs X) (xm X) (xa X) (xb X) (xt X) (xc X) H1 locs (mc + 1) (ms + len) Q (F0 (xm X) (pc + 2) ls (.ref q :: stf ad)) := by
    intro a0 q H1 cA hg0 hP1 hD1 hS1
    have hA : ∀ i, i < n → va_up ad n q i = ad i := fun i hi => va_up_of (Nat.ne_of_lt hi)
    have hg : gwd T (xy X) (va_up ad n q) (n + 1) (va_up I n (fun _ => 0)) (va_up J n (fun _ => 0)) (va_up N n (fun _ => none)) = gwd T (xy X) ad n I J N ++ [(q, .inl (cA, a0))] := by
      rw [gwd_ext hA (fun a ha => va_up_of (Nat.ne_of_lt ha)) (fun a ha => va_up_of (Nat.ne_of_lt ha)) (fun a ha => va_up_of (Nat.ne_of_lt ha)) hno]
      congr 1
      show [(va_up ad n q (n + 0), gce T (xy X) (va_up ad n q) _ _ _ (n + 0))] = _
      rw [Nat.add_zero, va_up_at, hg0]
    rw [← hg] at hP1 hD1
    have k1 := k (va_up ad n q) hA H1 locs ls hP1 (D_gin hD1) hS1 (by rw [hl9 _ hA]; exact hl)
    rw [va_up_at, hs9 _ hA] at k1
    exact k1
  rcases hk with ⟨rfl, rfl, rfl⟩ | ⟨rfl, rfl, rfl⟩
  · refine va_newa (atype := .int) (a0 := (len, .inl (fun _ => 0))) C.1 C.2.1 (C.2.2.2.2.1 _ w1) rfl C.2.2.2.2.2.2.2.1 hP (gin_D hD T _ I J N) hS C.2.2.2.2.2.2.2.2.1 (fun cA => rfl) hx hxl (by show len * 4 ≤ _; omega) (by rw [eR]; exact hR.1) (by rw [eR]; exact hR.2) d (fun q cA H1 hK1 hP1 hD1 hS1 => ?_)
    have e1 : (xs X).vm.findClass ("[" ++ FieldType.int.toString) = some cA := (hK1.2 4 _ rfl).2
    have e2 : (xs X).vm.findClass ("[" ++ FieldType.int.toString) = some (xy X 0) := (C.2.2.2.2.2.2.2.1.2 0 _ rfl).2
    have e3 : xy X 0 = cA := Option.some.inj (e2.symm.trans e1)
    subst e3
    exact key _ q H1 _ (by rw [gce_i (n := n + 1) ⟨Nat.lt_succ_self n, by rw [hT]⟩, hT, va_up_at]) hP1 hD1 hS1
  · refine va_newa (atype := .long) (a0 := (len, .inr (.inl (fun _ => 0)))) C.1 C.2.1 (C.2.2.2.2.1 _ w1) rfl C.2.2.2.2.2.2.2.1 hP (gin_D hD T _ I J N) hS C.2.2.2.2.2.2.2.2.1 (fun cA => rfl) hx hxl (by show len * 8 ≤ _; omega) (by rw [eR]; exact hR.1) (by rw [eR]; exact hR.2) d (fun q cA H1 hK1 hP1 hD1 hS1 => ?_)
    have e1 : (xs X).vm.findClass ("[" ++ FieldType.long.toString) = some cA := (hK1.2 4 _ rfl).2
    have e2 : (xs X).vm.findClass ("[" ++ FieldType.long.toString) = some (xy X 1) := (C.2.2.2.2.2.2.2.1.2 1 _ rfl).2
    have e3 : xy X 1 = cA := Option.some.inj (e2.symm.trans e1)
    subst e3
    exact key _ q H1 _ (by rw [gce_l (n := n + 1) ⟨Nat.lt_succ_self n, by rw [hT]⟩, hT, va_up_at]) hP1 hD1 hS1
theorem g_Init {y : MethodName} {cc2 : ByteArray} {nL2 idx b n' mc2 ms2 : Nat} {rm2 : Room} {I' : HI} {J' : HJ} {N' : HN} {host : String} (nest : Bool) (C : Cx X cc own nL ret rm) (M : gMn (xl X) y cc2 nL2 rm2 T n I J N (fun ad => [.ref (ad b)]) n' I' J' N' mc2 ms2) (S : sM y cc2 nL2 none 0) (w1 : if nest then Cond.methodLinkNest own idx y host ∈ lw_tbl else Cond.methodLink own idx y ∈ lw_g) (w2 : Cond.instanceMethod y ∈ lw_g) (hy1 : y.name = "<init>") (hR : rm2.cells = mc2 ∧ rm2.slots = ms2 ∧ rm2.frames + 1 ≤ rm.frames ∧ 8 + (nL2 + 11) + rm2.locals ≤ rm.locals) (hf : mc + mc2 ≤ rm.cells ∧ ms + ms2 ≤ rm.slots) (hW : ((stf ad).map fun v => v.category).sum ≤ 8) (d : decode cc pc = .ok (.invokespecial idx, 3))
    (hl9 : ∀ ad', (∀ i, i < n → ad' i = ad i) → lvf ad' = lvf ad) (hs9 : ∀ ad', (∀ i, i < n → ad' i = ad i) → stf ad' = stf ad)
    (k : ∀ ad', (∀ i, i < n → ad' i = ad i) → G T X ad' n' (mc + mc2) (ms + ms2) I' J' N' Q (pc + 3) nL (lvf ad') (stf ad')) : G T X ad n mc ms I J N Q pc nL (lvf ad) (.ref (ad b) :: stf ad) := fun H locs ls hP hD hS hl => by
  have eR := C.2.2.2.2.2.2.2.2.2.1
  have hA0 : ∀ q, gA ad n H.size q → xA X q := fun q h => by
    rcases h with ⟨i, hi, rfl⟩ | h
    · exact hD.2 i hi
    · exact C.2.2.2.2.2.2.2.2.1 q (Nat.le_trans hS.1 h)
  have hr : va_Run (xp X) (xl X) (xe X) (xR X) (xs X) (xm X) (xa X) (xb X) (xt X) (xc X) H locs mc ms mc2 ms2 (F0 (xm X) pc ls (.ref (ad b) :: stf ad)) (stf ad) (gQn T (xD X) (xy X) ad n (gA ad n H.size) n' I' J' N' (Value.ref (ad b) :: []).toArray) (gA ad n H.size) := by
    cases nest with
    | false => exact va_runI (b := ad b) (As := []) (n := 0) ⟨C.1, C.2.1, C.2.2.1, C.2.2.2.1, C.2.2.2.2.1⟩ (M.2.2 (xD X) (xy X) ad H.size) ⟨callB_of 0 C.2.2.2.2.1 (lw_gi S.1) rfl hR.1 hR.2.1 (C.2.2.2.2.1 _ S.2.1) (C.2.2.2.2.1 _ w1) S.2.2 (by rw [eR]; exact hR.2.2), hy1, C.2.2.2.2.1 _ w2⟩ ⟨g_pre, fun U hU hWm => ⟨rfl, by rw [hU], by rw [hU]; exact hP, va_K.moved hWm.alike C.2.2.2.2.2.2.2.1, nwS.warm hWm C.2.2.2.2.2.2.2.2.2.2, hD.1⟩⟩ rfl rfl hl.1 rfl (lv_room hW) d (by rw [eR]; exact hf)
    | true => exact va_runIN (b := ad b) (As := []) (n := 0) ⟨C.1, C.2.1, C.2.2.1, C.2.2.2.1, C.2.2.2.2.1⟩ (M.2.2 (xD X) (xy X) ad H.size) ⟨va_cnB 0 C.2.2.2.2.1 (lw_gi S.1) rfl hR.1 hR.2.1 (C.2.2.2.2.2.2.2.2.2.2 _ w1 rfl) (C.2.2.2.2.1 _ S.2.1) S.2.2 (by rw [eR]; exact hR.2.2), hy1, C.2.2.2.2.1 _ w2⟩ ⟨g_pre, fun U hU hWm => ⟨rfl, by rw [hU], by rw [hU]; exact hP, va_K.moved hWm.alike C.2.2.2.2.2.2.2.1, nwS.warm hWm C.2.2.2.2.2.2.2.2.2.2, hD.1⟩⟩ rfl rfl hl.1 rfl (lv_room hW) d (by rw [eR]; exact hf)
  intro T0 hT0 XS
  obtain ⟨v, st₀, t, T', L, h0, X', hL, e1, e2, ⟨⟨ad', hA, hG, hv, hP1⟩, hz, hk⟩, st⟩ := hr T0 hT0 XS
  cases hv
  rw [h0] at hz hk
  have k1 := k ad' hA T'.heap (locs ++ L) ls (by rw [e1]; exact hP1) ⟨hG.1, fun i hi => hA0 _ (hG.2 i hi)⟩ ⟨Nat.le_trans hS.1 (by rw [e1]; exact hz), fun q h1 h2 => by rw [e1, hk q (Nat.lt_of_lt_of_le h1 hS.1) (fun z => h2 (hA0 q z))]; exact hS.2.1 q h1 h2, fun q hq => by
      rcases List.mem_append.mp hq with h | h
      · exact hS.2.2 q h
      · exact hA0 _ (hL q h)⟩ (by rw [hl9 _ hA]; exact hl)
  rw [hs9 _ hA] at k1
  obtain ⟨t2, a1, b1⟩ := k1 T' rfl X'
  exact ⟨t2, st t2 a1, b1⟩
end GN
theorem gz_0 {I : HI} {J : HJ} {N : HN} {n : Nat} : ∀ (ad : Nat → Nat) (j : Nat), j < 2 → defaultValue (tyX0 j) = vp_V (gob ad (va_up I n (fun _ => 0)) (va_up J n (fun _ => 0)) (va_up N n (fun _ => none)) 0 n) j := by
  intro ad j hj
  simp only [gob, va_up_at]
  rcases (show j = 0 ∨ j = 1 by omega) with rfl | rfl <;> rfl
theorem gz_1 {I : HI} {J : HJ} {N : HN} {n : Nat} : ∀ (ad : Nat → Nat) (j : Nat), j < 3 → defaultValue (tyX1 j) = vp_V (gob ad (va_up I n (fun _ => 0)) (va_up J n (fun _ => 0)) (va_up N n (fun _ => none)) 1 n) j := by
  intro ad j hj
  simp only [gob, va_up_at]
  rcases (show j = 0 ∨ j = 1 ∨ j = 2 by omega) with rfl | rfl | rfl <;> rfl
theorem gz_2 {I : HI} {J : HJ} {N : HN} {n : Nat} : ∀ (ad : Nat → Nat) (j : Nat), j < 2 → defaultValue (tyX2 j) = vp_V (gob ad (va_up I n (fun _ => 0)) (va_up J n (fun _ => 0)) (va_up N n (fun _ => none)) 2 n) j := by
  intro ad j hj
  simp only [gob, va_up_at]
  rcases (show j = 0 ∨ j = 1 by omega) with rfl | rfl <;> rfl
theorem gz_3 {I : HI} {J : HJ} {N : HN} {n : Nat} : ∀ (ad : Nat → Nat) (j : Nat), j < 2 → defaultValue (tyX3 j) = vp_V (gob ad (va_up I n (fun _ => 0)) (va_up J n (fun _ => 0)) (va_up N n (fun _ => none)) 3 n) j := by
  intro ad j hj
  simp only [gob, va_up_at]
  rcases (show j = 0 ∨ j = 1 by omega) with rfl | rfl <;> rfl
theorem gz_4 {I : HI} {J : HJ} {N : HN} {n : Nat} : ∀ (ad : Nat → Nat) (j : Nat), j < 3 → defaultValue (tyX4 j) = vp_V (gob ad (va_up I n (fun _ => 0)) (va_up J n (fun _ => 0)) (va_up N n (fun _ => none)) 4 n) j := by
  intro ad j hj
  simp only [gob, va_up_at]
  rcases (show j = 0 ∨ j = 1 ∨ j = 2 by omega) with rfl | rfl | rfl <;> rfl
theorem gz_5 {I : HI} {J : HJ} {N : HN} {n : Nat} : ∀ (ad : Nat → Nat) (j : Nat), j < 2 → defaultValue (tyX5 j) = vp_V (gob ad (va_up I n (fun _ => 0)) (va_up J n (fun _ => 0)) (va_up N n (fun _ => none)) 5 n) j := by
  intro ad j hj
  simp only [gob, va_up_at]
  rcases (show j = 0 ∨ j = 1 by omega) with rfl | rfl <;> rfl
theorem gz_6 {I : HI} {J : HJ} {N : HN} {n : Nat} : ∀ (ad : Nat → Nat) (j : Nat), j < 1 → defaultValue (tyX6 j) = vp_V (gob ad (va_up I n (fun _ => 0)) (va_up J n (fun _ => 0)) (va_up N n (fun _ => none)) 6 n) j := by
  intro ad j hj
  simp only [gob, va_up_at]
  rcases (show j = 0 by omega) with rfl <;> rfl
theorem gz_7 {I : HI} {J : HJ} {N : HN} {n : Nat} : ∀ (ad : Nat → Nat) (j : Nat), j < 2 → defaultValue (tyX7 j) = vp_V (gob ad (va_up I n (fun _ => 0)) (va_up J n (fun _ => 0)) (va_up N n (fun _ => none)) 7 n) j := by
  intro ad j hj
  simp only [gob, va_up_at]
  rcases (show j = 0 ∨ j = 1 by omega) with rfl | rfl <;> rfl
theorem gz_8 {I : HI} {J : HJ} {N : HN} {n : Nat} : ∀ (ad : Nat → Nat) (j : Nat), j < 2 → defaultValue (tyX8 j) = vp_V (gob ad (va_up I n (fun _ => 0)) (va_up J n (fun _ => 0)) (va_up N n (fun _ => none)) 8 n) j := by
  intro ad j hj
  simp only [gob, va_up_at]
  rcases (show j = 0 ∨ j = 1 by omega) with rfl | rfl <;> rfl
theorem gz_9 {I : HI} {J : HJ} {N : HN} {n : Nat} : ∀ (ad : Nat → Nat) (j : Nat), j < 10 → defaultValue (tyX9 j) = vp_V (gob ad (va_up I n (fun _ => 0)) (va_up J n (fun _ => 0)) (va_up N n (fun _ => none)) 9 n) j := by
  intro ad j hj
  simp only [gob, va_up_at]
  rcases (show j = 0 ∨ j = 1 ∨ j = 2 ∨ j = 3 ∨ j = 4 ∨ j = 5 ∨ j = 6 ∨ j = 7 ∨ j = 8 ∨ j = 9 by omega) with rfl | rfl | rfl | rfl | rfl | rfl | rfl | rfl | rfl | rfl <;> rfl
theorem gz_10 {I : HI} {J : HJ} {N : HN} {n : Nat} : ∀ (ad : Nat → Nat) (j : Nat), j < 9 → defaultValue (tyX10 j) = vp_V (gob ad (va_up I n (fun _ => 0)) (va_up J n (fun _ => 0)) (va_up N n (fun _ => none)) 10 n) j := by
  intro ad j hj
  simp only [gob, va_up_at]
  rcases (show j = 0 ∨ j = 1 ∨ j = 2 ∨ j = 3 ∨ j = 4 ∨ j = 5 ∨ j = 6 ∨ j = 7 ∨ j = 8 by omega) with rfl | rfl | rfl | rfl | rfl | rfl | rfl | rfl | rfl <;> rfl
theorem gz_11 {I : HI} {J : HJ} {N : HN} {n : Nat} : ∀ (ad : Nat → Nat) (j : Nat), j < 33 → defaultValue (tyX11 j) = vp_V (gob ad (va_up I n (fun _ => 0)) (va_up J n (fun _ => 0)) (va_up N n (fun _ => none)) 11 n) j := by
  intro ad j hj
  simp only [gob, va_up_at]
  rcases (show j = 0 ∨ j = 1 ∨ j = 2 ∨ j = 3 ∨ j = 4 ∨ j = 5 ∨ j = 6 ∨ j = 7 ∨ j = 8 ∨ j = 9 ∨ j = 10 ∨ j = 11 ∨ j = 12 ∨ j = 13 ∨ j = 14 ∨ j = 15 ∨ j = 16 ∨ j = 17 ∨ j = 18 ∨ j = 19 ∨ j = 20 ∨ j = 21 ∨ j = 22 ∨ j = 23 ∨ j = 24 ∨ j = 25 ∨ j = 26 ∨ j = 27 ∨ j = 28 ∨ j = 29 ∨ j = 30 ∨ j = 31 ∨ j = 32 by omega) with rfl | rfl | rfl | rfl | rfl | rfl | rfl | rfl | rfl | rfl | rfl | rfl | rfl | rfl | rfl | rfl | rfl | rfl | rfl | rfl | rfl | rfl | rfl | rfl | rfl | rfl | rfl | rfl | rfl | rfl | rfl | rfl | rfl <;> rfl
