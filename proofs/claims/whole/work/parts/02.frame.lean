abbrev HI : Type := Nat → Nat → Int32
abbrev HJ : Type := Nat → Nat → Int64
abbrev HN : Type := Nat → Nat → Option Nat
abbrev HT : Type := Nat → Nat × Nat
/-- slot k of cell a becomes v -/
def up2 {α : Type} (f : Nat → Nat → α) (a k : Nat) (v : α) : Nat → Nat → α := va_up f a (va_up (f a) k v)
/-- the fields of an object of class c at the place a -/
def gob (ad : Nat → Nat) (I : HI) (J : HJ) (N : HN) (c a : Nat) : List Value := match c with
  | 0 => [va_rf ((N a 0).map ad), .int (I a 1)]
  | 1 => [va_rf ((N a 0).map ad), va_rf ((N a 1).map ad), va_rf ((N a 2).map ad)]
  | 2 => [.long (J a 0), .long (J a 1)]
  | 3 => [va_rf ((N a 0).map ad), .int (I a 1)]
  | 4 => [va_rf ((N a 0).map ad), va_rf ((N a 1).map ad), .int (I a 2)]
  | 5 => [va_rf ((N a 0).map ad), va_rf ((N a 1).map ad)]
  | 6 => [va_rf ((N a 0).map ad)]
  | 7 => [va_rf ((N a 0).map ad), va_rf ((N a 1).map ad)]
  | 8 => [va_rf ((N a 0).map ad), va_rf ((N a 1).map ad)]
  | 9 => [va_rf ((N a 0).map ad), va_rf ((N a 1).map ad), va_rf ((N a 2).map ad), va_rf ((N a 3).map ad), va_rf ((N a 4).map ad), va_rf ((N a 5).map ad), va_rf ((N a 6).map ad), va_rf ((N a 7).map ad), va_rf ((N a 8).map ad), .int (I a 9)]
  | 10 => [va_rf ((N a 0).map ad), va_rf ((N a 1).map ad), va_rf ((N a 2).map ad), va_rf ((N a 3).map ad), va_rf ((N a 4).map ad), va_rf ((N a 5).map ad), va_rf ((N a 6).map ad), va_rf ((N a 7).map ad), .int (I a 8)]
  | _ => [.int (I a 0), va_rf ((N a 1).map ad), va_rf ((N a 2).map ad), va_rf ((N a 3).map ad), va_rf ((N a 4).map ad), va_rf ((N a 5).map ad), .int (I a 6), va_rf ((N a 7).map ad), .int (I a 8), .long (J a 9), .long (J a 10), va_rf ((N a 11).map ad), va_rf ((N a 12).map ad), .long (J a 13), .long (J a 14), va_rf ((N a 15).map ad), va_rf ((N a 16).map ad), va_rf ((N a 17).map ad), va_rf ((N a 18).map ad), va_rf ((N a 19).map ad), va_rf ((N a 20).map ad), .int (I a 21), va_rf ((N a 22).map ad), va_rf ((N a 23).map ad), va_rf ((N a 24).map ad), va_rf ((N a 25).map ad), va_rf ((N a 26).map ad), va_rf ((N a 27).map ad), va_rf ((N a 28).map ad), va_rf ((N a 29).map ad), va_rf ((N a 30).map ad), .int (I a 31), va_rf ((N a 32).map ad)]
theorem gob_congr {ad : Nat → Nat} {I I' : HI} {J J' : HJ} {N N' : HN} {a : Nat} (h1 : I' a = I a) (h2 : J' a = J a) (h3 : N' a = N a) (c : Nat) : gob ad I' J' N' c a = gob ad I J N c a := by
  unfold gob
  split <;> simp only [h1, h2, h3]
def gce (T : HT) (y : Nat → ClassId) (ad : Nat → Nat) (I : HI) (J : HJ) (N : HN) (a : Nat) : va_E := match (T a).1 with
  | 0 => .inr ((T a).2, gob ad I J N (T a).2 a)
  | 1 => .inl (y 0, (T a).2, .inl (I a))
  | 2 => .inl (y 1, (T a).2, .inr (.inl (J a)))
  | 3 => .inl (y 2, (T a).2, .inr (.inr (.inr (.inr (fun k => (N a k).map ad)))))
  | _ => .inl (y 3, (T a).2, .inr (.inr (.inr (.inr (fun k => (N a k).map ad)))))
theorem gce_congr {T : HT} {y : Nat → ClassId} {ad : Nat → Nat} {I I' : HI} {J J' : HJ} {N N' : HN} {a : Nat} (h1 : I' a = I a) (h2 : J' a = J a) (h3 : N' a = N a) : gce T y ad I' J' N' a = gce T y ad I J N a := by
  unfold gce
  rw [gob_congr h1 h2 h3, h1, h2, h3]
def gwd (T : HT) (y : Nat → ClassId) (ad : Nat → Nat) (n : Nat) (I : HI) (J : HJ) (N : HN) : va_W := (List.range n).map (fun a => (ad a, gce T y ad I J N a))
theorem gwd_at {T : HT} {y : Nat → ClassId} {ad : Nat → Nat} {n : Nat} {I : HI} {J : HJ} {N : HN} {a : Nat} (h : a < n) : (gwd T y ad n I J N)[a]? = some (ad a, gce T y ad I J N a) := by
  unfold gwd
  rw [List.getElem?_map, List.getElem?_range h]
  rfl
theorem gwd_some {T : HT} {y : Nat → ClassId} {ad : Nat → Nat} {n : Nat} {I : HI} {J : HJ} {N : HN} {a : Nat} {q : Nat × va_E} (h : (gwd T y ad n I J N)[a]? = some q) : a < n ∧ q = (ad a, gce T y ad I J N a) := by
  by_cases h0 : a < n
  · rw [gwd_at h0] at h
    exact ⟨h0, (Option.some.inj h).symm⟩
  · unfold gwd at h
    rw [List.getElem?_eq_none (by simp; omega)] at h
    cases h
theorem gwd_set {T : HT} {y : Nat → ClassId} {ad : Nat → Nat} {n : Nat} {I I' : HI} {J J' : HJ} {N N' : HN} {a : Nat} {E : va_E} (hE : gce T y ad I' J' N' a = E) (h1 : ∀ b, b ≠ a → I' b = I b) (h2 : ∀ b, b ≠ a → J' b = J b) (h3 : ∀ b, b ≠ a → N' b = N b) : (gwd T y ad n I J N).set a (ad a, E) = gwd T y ad n I' J' N' := by
  apply List.ext_getElem?
  intro i
  by_cases hi : i < n
  · rw [gwd_at hi]
    by_cases hia : i = a
    · subst hia
      rw [List.getElem?_set_self (by unfold gwd; simp; exact hi), hE]
    · rw [List.getElem?_set_ne (fun h => hia h.symm), gwd_at hi, gce_congr (h1 i hia) (h2 i hia) (h3 i hia)]
  · rw [List.getElem?_eq_none (by unfold gwd; simp; omega), List.getElem?_eq_none (by unfold gwd; simp; omega)]
theorem va_up_of {α : Type} {f : Nat → α} {a b : Nat} {v : α} (h : b ≠ a) : va_up f a v b = f b := if_neg h
theorem va_up_at {α : Type} {f : Nat → α} {a : Nat} {v : α} : va_up f a v a = v := if_pos rfl
theorem up2_of {α : Type} {f : Nat → Nat → α} {a k b : Nat} {v : α} (h : b ≠ a) : up2 f a k v b = f b := if_neg h
theorem up2_at {α : Type} {f : Nat → Nat → α} {a k : Nat} {v : α} : up2 f a k v a = va_up (f a) k v := if_pos rfl
def gtys (y : Nat → ClassId) : List (ClassId × FieldType) := [(y 0, .int), (y 1, .long), (y 2, .array .int), (y 3, .array .long)]
/-- the machine's own part of a walk: program, launch, env, room, start, method, args, below, meth, code, class numbers, array classes, the cells that may change -/
abbrev HX : Type := Program × Launch × Env × Room × State × MethodId × Array Value × List Frame × Method × Code × va_G × (Nat → ClassId) × (Nat → Prop)
abbrev xp (X : HX) : Program := X.1
abbrev xl (X : HX) : Launch := X.2.1
abbrev xe (X : HX) : Env := X.2.2.1
abbrev xR (X : HX) : Room := X.2.2.2.1
abbrev xs (X : HX) : State := X.2.2.2.2.1
abbrev xm (X : HX) : MethodId := X.2.2.2.2.2.1
abbrev xa (X : HX) : Array Value := X.2.2.2.2.2.2.1
abbrev xb (X : HX) : List Frame := X.2.2.2.2.2.2.2.1
abbrev xt (X : HX) : Method := X.2.2.2.2.2.2.2.2.1
abbrev xc (X : HX) : Code := X.2.2.2.2.2.2.2.2.2.1
abbrev xD (X : HX) : va_G := X.2.2.2.2.2.2.2.2.2.2.1
abbrev xy (X : HX) : Nat → ClassId := X.2.2.2.2.2.2.2.2.2.2.2.1
abbrev xA (X : HX) : Nat → Prop := X.2.2.2.2.2.2.2.2.2.2.2.2
def gin (A : Nat → Prop) (ad : Nat → Nat) (n : Nat) : Prop := (∀ i j, i < n → j < n → ad i = ad j → i = j) ∧ ∀ i, i < n → A (ad i)
theorem gin_D {A : Nat → Prop} {ad : Nat → Nat} {n : Nat} (h : gin A ad n) (T : HT) (y : Nat → ClassId) (I : HI) (J : HJ) (N : HN) : va_D A (gwd T y ad n I J N) := by
  refine ⟨fun i j p q hi hj hpq => ?_, fun k q hk => ?_⟩
  · obtain ⟨h1, rfl⟩ := gwd_some hi
    obtain ⟨h2, rfl⟩ := gwd_some hj
    exact h.1 i j h1 h2 hpq
  · obtain ⟨h1, rfl⟩ := gwd_some hk
    exact h.2 k h1
def G (T : HT) (X : HX) (ad : Nat → Nat) (n mc ms : Nat) (I : HI) (J : HJ) (N : HN) (Q : State → Prop) (pc nL : Nat) (lv : List (Nat × Value)) (st : List Value) : Prop :=
  ∀ (H : Heap) (locs : List Loc) (ls : Array Slot), va_P (xD X) gcl (gwd T (xy X) ad n I J N) H → gin (xA X) ad n → va_S (xA X) (xs X).heap H locs → lv_has ls nL lv →
    W (xp X) (xl X) (xe X) (xR X) (xs X) (xm X) (xa X) (xb X) (xt X) (xc X) H locs mc ms Q (F0 (xm X) pc ls st)
def Cx (X : HX) (cc : ByteArray) (own : String) (nL : Nat) (ret : Option FieldType) (rm : Room) : Prop :=
  (xp X).tables.exec = Jvm.exec ∧ (xc X).code = cc ∧ (xc X).maxLocals = nL ∧ (xs X).vm.findClass own = some (xm X).cls ∧ (∀ w ∈ lw_g, w.before (xa X) (xs X) = true) ∧ (xt X).sig.returnType = ret ∧ (xt X).locks = false ∧ va_K (xD X) gcl (gtys (xy X)) (xs X) ∧ (∀ q, (xs X).heap.size ≤ q → xA X q) ∧ xR X = rm ∧ nwS (xs X)
def gk (T : HT) (n a : Nat) (κ : Nat × Nat) : Prop := a < n ∧ T a = κ
def ga (T : HT) (n a : Nat) (k : Nat) : Prop := a < n ∧ (T a).1 = k
theorem gce_o {T : HT} {n a ci : Nat} {y : Nat → ClassId} {ad : Nat → Nat} {I : HI} {J : HJ} {N : HN} (h : gk T n a (0, ci)) : gce T y ad I J N a = .inr (ci, gob ad I J N ci a) := by
  unfold gce
  rw [h.2] <;> rfl
theorem gce_i {T : HT} {n a : Nat} {y : Nat → ClassId} {ad : Nat → Nat} {I : HI} {J : HJ} {N : HN} (h : ga T n a 1) : gce T y ad I J N a = .inl (y 0, (T a).2, .inl (I a)) := by
  unfold gce
  rw [h.2] <;> rfl
theorem gce_l {T : HT} {n a : Nat} {y : Nat → ClassId} {ad : Nat → Nat} {I : HI} {J : HJ} {N : HN} (h : ga T n a 2) : gce T y ad I J N a = .inl (y 1, (T a).2, .inr (.inl (J a))) := by
  unfold gce
  rw [h.2] <;> rfl
theorem gce_a {T : HT} {n a : Nat} {y : Nat → ClassId} {ad : Nat → Nat} {I : HI} {J : HJ} {N : HN} (h : ga T n a 3) : gce T y ad I J N a = .inl (y 2, (T a).2, .inr (.inr (.inr (.inr (fun k => (N a k).map ad))))) := by
  unfold gce
  rw [h.2] <;> rfl
theorem gce_b {T : HT} {n a : Nat} {y : Nat → ClassId} {ad : Nat → Nat} {I : HI} {J : HJ} {N : HN} (h : ga T n a 4) : gce T y ad I J N a = .inl (y 3, (T a).2, .inr (.inr (.inr (.inr (fun k => (N a k).map ad))))) := by
  unfold gce
  rw [h.2] <;> rfl
/-- an index in its row -/
def inb (i : Int32) (n : Nat) : Bool := !(decide (i < 0)) && decide (i.toNatClampNeg < n)
theorem inb_in {i : Int32} {n : Nat} (h : inb i n = true) : vp_in i n := by
  unfold inb at h
  simp only [Bool.and_eq_true, Bool.not_eq_true', decide_eq_false_iff_not, decide_eq_true_eq] at h
  intro q
  rcases q with q | q
  · exact h.1 q
  · omega
/-- the words of pure functions: a guard, a reference's cell, a call's answer, a named value -/
def gd {R : Type} (b : Bool) (K : Option R) : Option R := match b with
  | true => K
  | false => none
theorem o_gd {R : Type} {b : Bool} {K : Option R} {r : R} (h : gd b K = some r) : b = true ∧ K = some r := by
  cases b
  · cases h
  · exact ⟨rfl, h⟩
def rq {R : Type} (T : HT) (n : Nat) (x : Option Nat) (κ : Nat × Nat) (K : Nat → Option R) : Option R := match x with
  | some b => gd (decide (b < n ∧ T b = κ)) (K b)
  | none => none
theorem o_rq {R : Type} {T : HT} {n : Nat} {x : Option Nat} {κ : Nat × Nat} {K : Nat → Option R} {r : R} (h : rq T n x κ K = some r) : ∃ b, x = some b ∧ gk T n b κ ∧ K b = some r := by
  cases x with
  | none => cases h
  | some b =>
    obtain ⟨h1, h2⟩ := o_gd h
    exact ⟨b, rfl, (of_decide_eq_true h1 : b < n ∧ T b = κ), h2⟩
def ra {R : Type} (T : HT) (n : Nat) (x : Option Nat) (κ : Nat) (K : Nat → Option R) : Option R := match x with
  | some b => gd (decide (b < n ∧ (T b).1 = κ)) (K b)
  | none => none
theorem o_ra {R : Type} {T : HT} {n : Nat} {x : Option Nat} {κ : Nat} {K : Nat → Option R} {r : R} (h : ra T n x κ K = some r) : ∃ b, x = some b ∧ ga T n b κ ∧ K b = some r := by
  cases x with
  | none => cases h
  | some b =>
    obtain ⟨h1, h2⟩ := o_gd h
    exact ⟨b, rfl, (of_decide_eq_true h1 : b < n ∧ (T b).1 = κ), h2⟩
def bd {α R : Type} (e : α) (K : α → Option R) : Option R := K e
theorem o_bd {α R : Type} {e : α} {K : α → Option R} {r : R} (h : bd e K = some r) : ∃ v, v = e ∧ K v = some r := ⟨e, rfl, h⟩
def bn1 {A R : Type} (x : Option A) (K : A → Option R) : Option R := match x with
  | some a => K a
  | none => none
theorem o_bn1 {A R : Type} {x : Option A} {K : A → Option R} {r : R} (h : bn1 x K = some r) : ∃ a, x = some a ∧ K a = some r := by
  cases x with
  | none => cases h
  | some a => exact ⟨a, rfl, h⟩
def bn2 {A B R : Type} (x : Option (A × B)) (K : A → B → Option R) : Option R := match x with
  | some (a, b) => K a b
  | none => none
theorem o_bn2 {A B R : Type} {x : Option (A × B)} {K : A → B → Option R} {r : R} (h : bn2 x K = some r) : ∃ a b, x = some (a, b) ∧ K a b = some r := by
  rcases x with _ | ⟨a, b⟩
  · cases h
  · exact ⟨a, b, rfl, h⟩
def bn3 {A B C R : Type} (x : Option (A × B × C)) (K : A → B → C → Option R) : Option R := match x with
  | some (a, b, c) => K a b c
  | none => none
theorem o_bn3 {A B C R : Type} {x : Option (A × B × C)} {K : A → B → C → Option R} {r : R} (h : bn3 x K = some r) : ∃ a b c, x = some (a, b, c) ∧ K a b c = some r := by
  rcases x with _ | ⟨a, b, c⟩
  · cases h
  · exact ⟨a, b, c, rfl, h⟩
def bn4 {A B C D R : Type} (x : Option (A × B × C × D)) (K : A → B → C → D → Option R) : Option R := match x with
  | some (a, b, c, d) => K a b c d
  | none => none
theorem o_bn4 {A B C D R : Type} {x : Option (A × B × C × D)} {K : A → B → C → D → Option R} {r : R} (h : bn4 x K = some r) : ∃ a b c d, x = some (a, b, c, d) ∧ K a b c d = some r := by
  rcases x with _ | ⟨a, b, c, d⟩
  · cases h
  · exact ⟨a, b, c, d, rfl, h⟩
theorem o_ret {R : Type} {x r : R} (h : some x = some r) : x = r := Option.some.inj h
theorem o_pos {R : Type} {c : Prop} {D : Decidable c} {A B : Option R} {r : R} (e : c) (h : (@ite (Option R) c D A B) = some r) : A = some r := by
  rw [if_pos e] at h
  exact h
theorem o_neg {R : Type} {c : Prop} {D : Decidable c} {A B : Option R} {r : R} (e : ¬ c) (h : (@ite (Option R) c D A B) = some r) : B = some r := by
  rw [if_neg e] at h
  exact h
/-- a method's contract: from the world (I, J, N) to the world o, with o's answer -/
def gA (ad : Nat → Nat) (n sz : Nat) : Nat → Prop := fun q => (∃ i, i < n ∧ q = ad i) ∨ sz ≤ q
abbrev HO : Type := HI × HJ × HN × ((Nat → Nat) → Option Value)
def gPc (T : HT) (D : va_G) (y : Nat → ClassId) (ad : Nat → Nat) (n sz : Nat) (I : HI) (J : HJ) (N : HN) (av : List Value) : Array Value → State → Prop := fun v U =>
  v = av.toArray ∧ U.heap.size = sz ∧ va_P D gcl (gwd T y ad n I J N) U.heap ∧ va_K D gcl (gtys y) U ∧ nwS U ∧ ∀ i j, i < n → j < n → ad i = ad j → i = j
def gQc (T : HT) (D : va_G) (y : Nat → ClassId) (ad : Nat → Nat) (n : Nat) (A : Nat → Prop) (o : HO) : Array Value → State → Outcome → State → Prop := fun _ st oc t =>
  (oc = .returned (o.2.2.2 ad) ∧ va_P D gcl (gwd T y ad n o.1 o.2.1 o.2.2.1) t.heap) ∧ va_F A st t
def gM (l : Launch) (y : MethodName) (cc : ByteArray) (nL : Nat) (ret : Option FieldType) (rm : Room) (T : HT) (n : Nat) (I : HI) (J : HJ) (N : HN) (av : (Nat → Nat) → List Value) (o : HO) : Prop :=
  ∀ (D : va_G) (yc : Nat → ClassId) (ad : Nat → Nat) (sz : Nat), Met l y (Cond.code y cc nL ret :: lw_g) rm (gPc T D yc ad n sz I J N (av ad)) (gQc T D yc ad n (gA ad n sz) o) 0 0 (gA ad n sz)
def gE (X : HX) (T : HT) (ad : Nat → Nat) (n : Nat) (o : HO) : State → Prop := MQ (xb X) (gQc T (xD X) (xy X) ad n (xA X) o) (xa X) (xs X) 0 0 (xA X)
theorem g_meth {l : Launch} {y : MethodName} {cc : ByteArray} {nL : Nat} {ret : Option FieldType} {rm : Room} {T : HT} {n : Nat} {I : HI} {J : HJ} {N : HN} {av : (Nat → Nat) → List Value} {o : HO} {lv : (Nat → Nat) → List (Nat × Value)} (hy : plainName y.cls = true) (hlen : ∀ ad, (lg_sl (av ad)).length ≤ nL) (hlv : ∀ ad, lv_args 0 (av ad) = lv ad)
    (body : ∀ (X : HX) (ad : Nat → Nat), Cx X cc y.cls nL ret rm → G T X ad n 0 0 I J N (gE X T ad n o) 0 nL (lv ad) []) : gM l y cc nL ret rm T n I J N av o := by
  intro D yc ad sz
  refine Met.ofW (cc := cc) (maxL := nL) (ret := ret) hy rfl ?_
  intro p e s m args below meth c s₁ B hml hv
  obtain ⟨rfl, hsz, hP, hK, hnw, hinj⟩ := hv
  subst hsz
  have hts := atoms_spec (ws := Cond.code y cc nL ret :: lw_g) B.pre
  have hl := lv_entry (av ad) (n := nL) (hlen ad)
  rw [lg_entry_eq]
  rw [hlv ad] at hl
  exact body (p, l, e, rm, s, m, (av ad).toArray, below, meth, c, D, yc, gA ad n s.heap.size) ad ⟨B.exec, B.bytes, hml, findClass_of_methodNamed B.named, fun w hw => hts w (List.mem_cons_of_mem _ hw), B.returns, B.notSynchronized, hK, fun q h => Or.inr h, rfl, hnw⟩ s.heap [] _ hP ⟨hinj, fun i hi => Or.inl ⟨i, hi, rfl⟩⟩ va_S.rf hl
def cpb (sp dp len : Int32) (n0 n1 : Nat) : Bool := !(decide (sp < 0)) && !(decide (dp < 0)) && !(decide (len < 0)) && decide (sp.toNatClampNeg + len.toNatClampNeg ≤ n0) && decide (dp.toNatClampNeg + len.toNatClampNeg ≤ n1)
section GR
variable {T : HT} {X : HX} {ad : Nat → Nat} {n mc ms : Nat} {I : HI} {J : HJ} {N : HN} {Q : State → Prop} {pc nL : Nat} {lv lv' : List (Nat × Value)} {rest : List Value} {cc : ByteArray} {own : String} {ret : Option FieldType} {rm : Room}
theorem g_lv (ks : List Nat) {st : List Value} (hl : lv_pick lv ks = lv') (k : G T X ad n mc ms I J N Q pc nL lv' st) : G T X ad n mc ms I J N Q pc nL lv st := fun H locs ls hP hD hS h => k H locs ls hP hD hS (lv_sub h ks hl)
theorem g_topi {x v : Int32} (e : v = x) (k : G T X ad n mc ms I J N Q pc nL lv (.int v :: rest)) : G T X ad n mc ms I J N Q pc nL lv (.int x :: rest) := e ▸ k
theorem g_topl {x v : Int64} (e : v = x) (k : G T X ad n mc ms I J N Q pc nL lv (.long v :: rest)) : G T X ad n mc ms I J N Q pc nL lv (.long x :: rest) := e ▸ k
theorem g_iadd (C : Cx X cc own nL ret rm) {x y : Int32} (d : decode cc pc = .ok (.iadd, 1)) (k : G T X ad n mc ms I J N Q (pc + 1) nL lv (.int (x + y) :: rest)) : G T X ad n mc ms I J N Q pc nL lv (.int y :: .int x :: rest) := fun H locs ls hP hD hS hl => lv_iadd C.1 C.2.1 d (k H locs ls hP hD hS hl)
theorem g_isub (C : Cx X cc own nL ret rm) {x y : Int32} (d : decode cc pc = .ok (.isub, 1)) (k : G T X ad n mc ms I J N Q (pc + 1) nL lv (.int (x - y) :: rest)) : G T X ad n mc ms I J N Q pc nL lv (.int y :: .int x :: rest) := fun H locs ls hP hD hS hl => lv_isub C.1 C.2.1 d (k H locs ls hP hD hS hl)
theorem g_imul (C : Cx X cc own nL ret rm) {x y : Int32} (d : decode cc pc = .ok (.imul, 1)) (k : G T X ad n mc ms I J N Q (pc + 1) nL lv (.int (x * y) :: rest)) : G T X ad n mc ms I J N Q pc nL lv (.int y :: .int x :: rest) := fun H locs ls hP hD hS hl => lv_imul C.1 C.2.1 d (k H locs ls hP hD hS hl)
theorem g_iand (C : Cx X cc own nL ret rm) {x y : Int32} (d : decode cc pc = .ok (.iand, 1)) (k : G T X ad n mc ms I J N Q (pc + 1) nL lv (.int (x &&& y) :: rest)) : G T X ad n mc ms I J N Q pc nL lv (.int y :: .int x :: rest) := fun H locs ls hP hD hS hl => lv_iand C.1 C.2.1 d (k H locs ls hP hD hS hl)
theorem g_idiv (C : Cx X cc own nL ret rm) {x y : Int32} (d : decode cc pc = .ok (.idiv, 1)) (hne : ¬ y = 0) (k : G T X ad n mc ms I J N Q (pc + 1) nL lv (.int (x / y) :: rest)) : G T X ad n mc ms I J N Q pc nL lv (.int y :: .int x :: rest) := fun H locs ls hP hD hS hl => lv_idiv C.1 C.2.1 d hne (k H locs ls hP hD hS hl)
theorem g_irem (C : Cx X cc own nL ret rm) {x y : Int32} (d : decode cc pc = .ok (.irem, 1)) (hne : ¬ y = 0) (k : G T X ad n mc ms I J N Q (pc + 1) nL lv (.int (x - x / y * y) :: rest)) : G T X ad n mc ms I J N Q pc nL lv (.int y :: .int x :: rest) := fun H locs ls hP hD hS hl => lv_irem C.1 C.2.1 d hne (k H locs ls hP hD hS hl)
theorem g_ladd (C : Cx X cc own nL ret rm) {x y : Int64} (d : decode cc pc = .ok (.ladd, 1)) (k : G T X ad n mc ms I J N Q (pc + 1) nL lv (.long (x + y) :: rest)) : G T X ad n mc ms I J N Q pc nL lv (.long y :: .long x :: rest) := fun H locs ls hP hD hS hl => lv_ladd C.1 C.2.1 d (k H locs ls hP hD hS hl)
theorem g_lsub (C : Cx X cc own nL ret rm) {x y : Int64} (d : decode cc pc = .ok (.lsub, 1)) (k : G T X ad n mc ms I J N Q (pc + 1) nL lv (.long (x - y) :: rest)) : G T X ad n mc ms I J N Q pc nL lv (.long y :: .long x :: rest) := fun H locs ls hP hD hS hl => lv_lsub C.1 C.2.1 d (k H locs ls hP hD hS hl)
theorem g_lmul (C : Cx X cc own nL ret rm) {x y : Int64} (d : decode cc pc = .ok (.lmul, 1)) (k : G T X ad n mc ms I J N Q (pc + 1) nL lv (.long (x * y) :: rest)) : G T X ad n mc ms I J N Q pc nL lv (.long y :: .long x :: rest) := fun H locs ls hP hD hS hl => lv_lmul C.1 C.2.1 d (k H locs ls hP hD hS hl)
theorem g_ldiv (C : Cx X cc own nL ret rm) {x y : Int64} (d : decode cc pc = .ok (.ldiv, 1)) (hne : ¬ y = 0) (k : G T X ad n mc ms I J N Q (pc + 1) nL lv (.long (x / y) :: rest)) : G T X ad n mc ms I J N Q pc nL lv (.long y :: .long x :: rest) := fun H locs ls hP hD hS hl => lv_ldiv C.1 C.2.1 d hne (k H locs ls hP hD hS hl)
theorem g_lrem (C : Cx X cc own nL ret rm) {x y : Int64} (d : decode cc pc = .ok (.lrem, 1)) (hne : ¬ y = 0) (k : G T X ad n mc ms I J N Q (pc + 1) nL lv (.long (x - x / y * y) :: rest)) : G T X ad n mc ms I J N Q pc nL lv (.long y :: .long x :: rest) := fun H locs ls hP hD hS hl => lv_lrem C.1 C.2.1 d hne (k H locs ls hP hD hS hl)
theorem g_ineg (C : Cx X cc own nL ret rm) {x : Int32} (d : decode cc pc = .ok (.ineg, 1)) (k : G T X ad n mc ms I J N Q (pc + 1) nL lv (.int (-x) :: rest)) : G T X ad n mc ms I J N Q pc nL lv (.int x :: rest) := fun H locs ls hP hD hS hl => lv_ineg C.1 C.2.1 d (k H locs ls hP hD hS hl)
theorem g_lneg (C : Cx X cc own nL ret rm) {x : Int64} (d : decode cc pc = .ok (.lneg, 1)) (k : G T X ad n mc ms I J N Q (pc + 1) nL lv (.long (-x) :: rest)) : G T X ad n mc ms I J N Q pc nL lv (.long x :: rest) := fun H locs ls hP hD hS hl => lv_lneg C.1 C.2.1 d (k H locs ls hP hD hS hl)
theorem g_i2l (C : Cx X cc own nL ret rm) {x : Int32} (d : decode cc pc = .ok (.i2l, 1)) (k : G T X ad n mc ms I J N Q (pc + 1) nL lv (.long x.toInt64 :: rest)) : G T X ad n mc ms I J N Q pc nL lv (.int x :: rest) := fun H locs ls hP hD hS hl => lv_i2l C.1 C.2.1 d rfl (k H locs ls hP hD hS hl)
theorem g_l2i (C : Cx X cc own nL ret rm) {x : Int64} (d : decode cc pc = .ok (.l2i, 1)) (k : G T X ad n mc ms I J N Q (pc + 1) nL lv (.int x.toInt32 :: rest)) : G T X ad n mc ms I J N Q pc nL lv (.long x :: rest) := fun H locs ls hP hD hS hl => lv_l2i C.1 C.2.1 d rfl (k H locs ls hP hD hS hl)
theorem g_dup (C : Cx X cc own nL ret rm) {v : Value} (d : decode cc pc = .ok (.dup, 1)) (hv : v.category = 1) (k : G T X ad n mc ms I J N Q (pc + 1) nL lv (v :: v :: rest)) : G T X ad n mc ms I J N Q pc nL lv (v :: rest) := fun H locs ls hP hD hS hl => lv_dup C.1 C.2.1 d hv (k H locs ls hP hD hS hl)
theorem g_pop (C : Cx X cc own nL ret rm) {v : Value} (d : decode cc pc = .ok (.pop, 1)) (hv : v.category = 1) (k : G T X ad n mc ms I J N Q (pc + 1) nL lv rest) : G T X ad n mc ms I J N Q pc nL lv (v :: rest) := fun H locs ls hP hD hS hl => lv_pop C.1 C.2.1 d hv (k H locs ls hP hD hS hl)
theorem g_dup2 (C : Cx X cc own nL ret rm) {v w : Value} (d : decode cc pc = .ok (.dup2, 1)) (hv : v.category = 1) (hw : w.category = 1) (k : G T X ad n mc ms I J N Q (pc + 1) nL lv (v :: w :: v :: w :: rest)) : G T X ad n mc ms I J N Q pc nL lv (v :: w :: rest) := fun H locs ls hP hD hS hl => lv_dup2_11 C.1 C.2.1 d hv hw (k H locs ls hP hD hS hl)
theorem g_iconst (C : Cx X cc own nL ret rm) {m : Int} (v : Int32) (d : decode cc pc = .ok (.iconst m, 1)) (hv : Int32.ofInt m = v) (k : G T X ad n mc ms I J N Q (pc + 1) nL lv (.int v :: rest)) : G T X ad n mc ms I J N Q pc nL lv rest := fun H locs ls hP hD hS hl => lv_iconst C.1 C.2.1 d hv (k H locs ls hP hD hS hl)
theorem g_bipush (C : Cx X cc own nL ret rm) {m : Int} (v : Int32) (d : decode cc pc = .ok (.bipush m, 2)) (hv : (Int8.ofInt m).toInt32 = v) (k : G T X ad n mc ms I J N Q (pc + 2) nL lv (.int v :: rest)) : G T X ad n mc ms I J N Q pc nL lv rest := fun H locs ls hP hD hS hl => lv_bipush C.1 C.2.1 d hv (k H locs ls hP hD hS hl)
theorem g_sipush (C : Cx X cc own nL ret rm) {m : Int} (v : Int32) (d : decode cc pc = .ok (.sipush m, 3)) (hv : (Int16.ofInt m).toInt32 = v) (k : G T X ad n mc ms I J N Q (pc + 3) nL lv (.int v :: rest)) : G T X ad n mc ms I J N Q pc nL lv rest := fun H locs ls hP hD hS hl => lv_sipush C.1 C.2.1 d hv (k H locs ls hP hD hS hl)
theorem g_lconst (C : Cx X cc own nL ret rm) {m : Fin 2} (v : Int64) (d : decode cc pc = .ok (.lconst m, 1)) (hv : Int64.ofNat (m : Nat) = v) (k : G T X ad n mc ms I J N Q (pc + 1) nL lv (.long v :: rest)) : G T X ad n mc ms I J N Q pc nL lv rest := fun H locs ls hP hD hS hl => lv_lconst C.1 C.2.1 d hv (k H locs ls hP hD hS hl)
theorem g_ldc (C : Cx X cc own nL ret rm) {i : Nat} {v : Int32} (w : Cond.constant own i v ∈ lw_g) (d : decode cc pc = .ok (.ldc i, 2)) (k : G T X ad n mc ms I J N Q (pc + 2) nL lv (.int v :: rest)) : G T X ad n mc ms I J N Q pc nL lv rest := fun H locs ls hP hD hS hl => lv_ldc C.1 C.2.1 C.2.2.2.1 (C.2.2.2.2.1 _ w) d (k H locs ls hP hD hS hl)
theorem g_ldc2 (C : Cx X cc own nL ret rm) {i : Nat} {v : Int64} (w : Cond.constantLong own i v ∈ lw_g) (d : decode cc pc = .ok (.ldc2_w i, 3)) (k : G T X ad n mc ms I J N Q (pc + 3) nL lv (.long v :: rest)) : G T X ad n mc ms I J N Q pc nL lv rest := fun H locs ls hP hD hS hl => lv_ldc2 C.1 C.2.1 C.2.2.2.1 (C.2.2.2.2.1 _ w) d (k H locs ls hP hD hS hl)
theorem g_iload_n (C : Cx X cc own nL ret rm) {j : Fin 4} {i : Nat} {x : Int32} (d : decode cc pc = .ok (.iload_n j, 1)) (hi : (j : Nat) = i) (q : Nat) (hq : lv[q]? = some (i, .int x)) (k : G T X ad n mc ms I J N Q (pc + 1) nL lv (.int x :: rest)) : G T X ad n mc ms I J N Q pc nL lv rest := fun H locs ls hP hD hS hl => lv_iload_n C.1 C.2.1 d hi (lv_at hl q hq) (k H locs ls hP hD hS hl)
theorem g_iload (C : Cx X cc own nL ret rm) {i : Nat} {x : Int32} (d : decode cc pc = .ok (.iload i, 2)) (q : Nat) (hq : lv[q]? = some (i, .int x)) (k : G T X ad n mc ms I J N Q (pc + 2) nL lv (.int x :: rest)) : G T X ad n mc ms I J N Q pc nL lv rest := fun H locs ls hP hD hS hl => lv_iload C.1 C.2.1 d (lv_at hl q hq) (k H locs ls hP hD hS hl)
theorem g_istore_n (C : Cx X cc own nL ret rm) {j : Fin 4} {i : Nat} {x : Int32} (d : decode cc pc = .ok (.istore_n j, 1)) (hi : (j : Nat) = i) (hn : i < nL) (hl' : (i, Value.int x) :: lv.filter (fun q => !(q.1 == i) && !(q.1 + 1 == i && q.2.category == 2)) = lv') (k : G T X ad n mc ms I J N Q (pc + 1) nL lv' rest) : G T X ad n mc ms I J N Q pc nL lv (.int x :: rest) := fun H locs ls hP hD hS hl => lv_istore_n C.1 C.2.1 d hi hl hn hl' (fun ls hl => k H locs ls hP hD hS hl)
theorem g_istore (C : Cx X cc own nL ret rm) {i : Nat} {x : Int32} (d : decode cc pc = .ok (.istore i, 2)) (hn : i < nL) (hl' : (i, Value.int x) :: lv.filter (fun q => !(q.1 == i) && !(q.1 + 1 == i && q.2.category == 2)) = lv') (k : G T X ad n mc ms I J N Q (pc + 2) nL lv' rest) : G T X ad n mc ms I J N Q pc nL lv (.int x :: rest) := fun H locs ls hP hD hS hl => lv_istore C.1 C.2.1 d hl hn hl' (fun ls hl => k H locs ls hP hD hS hl)
theorem g_lload_n (C : Cx X cc own nL ret rm) {j : Fin 4} {i : Nat} {x : Int64} (d : decode cc pc = .ok (.lload_n j, 1)) (hi : (j : Nat) = i) (q : Nat) (hq : lv[q]? = some (i, .long x)) (k : G T X ad n mc ms I J N Q (pc + 1) nL lv (.long x :: rest)) : G T X ad n mc ms I J N Q pc nL lv rest := fun H locs ls hP hD hS hl => lv_lload_n C.1 C.2.1 d hi (lv_at hl q hq) (k H locs ls hP hD hS hl)
theorem g_lload (C : Cx X cc own nL ret rm) {i : Nat} {x : Int64} (d : decode cc pc = .ok (.lload i, 2)) (q : Nat) (hq : lv[q]? = some (i, .long x)) (k : G T X ad n mc ms I J N Q (pc + 2) nL lv (.long x :: rest)) : G T X ad n mc ms I J N Q pc nL lv rest := fun H locs ls hP hD hS hl => lv_lload C.1 C.2.1 d (lv_at hl q hq) (k H locs ls hP hD hS hl)
theorem g_lstore_n (C : Cx X cc own nL ret rm) {j : Fin 4} {i : Nat} {x : Int64} (d : decode cc pc = .ok (.lstore_n j, 1)) (hi : (j : Nat) = i) (hn : i + 1 < nL) (hl' : (i, Value.long x) :: lv.filter (fun q => !(q.1 == i) && (!(q.1 == i + 1) && !(q.1 + 1 == i && q.2.category == 2))) = lv') (k : G T X ad n mc ms I J N Q (pc + 1) nL lv' rest) : G T X ad n mc ms I J N Q pc nL lv (.long x :: rest) := fun H locs ls hP hD hS hl => lv_lstore_n C.1 C.2.1 d hi hl hn hl' (fun ls hl => k H locs ls hP hD hS hl)
theorem g_lstore (C : Cx X cc own nL ret rm) {i : Nat} {x : Int64} (d : decode cc pc = .ok (.lstore i, 2)) (hn : i + 1 < nL) (hl' : (i, Value.long x) :: lv.filter (fun q => !(q.1 == i) && (!(q.1 == i + 1) && !(q.1 + 1 == i && q.2.category == 2))) = lv') (k : G T X ad n mc ms I J N Q (pc + 2) nL lv' rest) : G T X ad n mc ms I J N Q pc nL lv (.long x :: rest) := fun H locs ls hP hD hS hl => lv_lstore C.1 C.2.1 d hl hn hl' (fun ls hl => k H locs ls hP hD hS hl)
theorem g_aload_n (C : Cx X cc own nL ret rm) {j : Fin 4} {i : Nat} {x : Nat} (d : decode cc pc = .ok (.aload_n j, 1)) (hi : (j : Nat) = i) (q : Nat) (hq : lv[q]? = some (i, .ref x)) (k : G T X ad n mc ms I J N Q (pc + 1) nL lv (.ref x :: rest)) : G T X ad n mc ms I J N Q pc nL lv rest := fun H locs ls hP hD hS hl => lv_aload_n C.1 C.2.1 d hi (lv_at hl q hq) (k H locs ls hP hD hS hl)
theorem g_aload (C : Cx X cc own nL ret rm) {i : Nat} {x : Nat} (d : decode cc pc = .ok (.aload i, 2)) (q : Nat) (hq : lv[q]? = some (i, .ref x)) (k : G T X ad n mc ms I J N Q (pc + 2) nL lv (.ref x :: rest)) : G T X ad n mc ms I J N Q pc nL lv rest := fun H locs ls hP hD hS hl => lv_aload C.1 C.2.1 d (lv_at hl q hq) (k H locs ls hP hD hS hl)
theorem g_astore_n (C : Cx X cc own nL ret rm) {j : Fin 4} {i : Nat} {x : Nat} (d : decode cc pc = .ok (.astore_n j, 1)) (hi : (j : Nat) = i) (hn : i < nL) (hl' : (i, Value.ref x) :: lv.filter (fun q => !(q.1 == i) && !(q.1 + 1 == i && q.2.category == 2)) = lv') (k : G T X ad n mc ms I J N Q (pc + 1) nL lv' rest) : G T X ad n mc ms I J N Q pc nL lv (.ref x :: rest) := fun H locs ls hP hD hS hl => lv_astore_n C.1 C.2.1 d hi hl hn hl' (fun ls hl => k H locs ls hP hD hS hl)
theorem g_astore (C : Cx X cc own nL ret rm) {i : Nat} {x : Nat} (d : decode cc pc = .ok (.astore i, 2)) (hn : i < nL) (hl' : (i, Value.ref x) :: lv.filter (fun q => !(q.1 == i) && !(q.1 + 1 == i && q.2.category == 2)) = lv') (k : G T X ad n mc ms I J N Q (pc + 2) nL lv' rest) : G T X ad n mc ms I J N Q pc nL lv (.ref x :: rest) := fun H locs ls hP hD hS hl => lv_astore C.1 C.2.1 d hl hn hl' (fun ls hl => k H locs ls hP hD hS hl)
theorem g_iinc (C : Cx X cc own nL ret rm) {i q : Nat} {m : Int} {x v : Int32} (d : decode cc pc = .ok (.iinc i m, 3)) (hq : lv[q]? = some (i, .int x)) (hv : x + Int32.ofInt m = v) (hn : i < nL) (hl' : (i, Value.int v) :: lv.filter (fun q => !(q.1 == i) && !(q.1 + 1 == i && q.2.category == 2)) = lv') (k : G T X ad n mc ms I J N Q (pc + 3) nL lv' rest) : G T X ad n mc ms I J N Q pc nL lv rest := fun H locs ls hP hD hS hl => lv_iinc C.1 C.2.1 d hl hq hv hn hl' (fun ls hl => k H locs ls hP hD hS hl)
theorem g_icmp_eq (C : Cx X cc own nL ret rm) {x y : Int32} {off : Int} (tgt : Nat) (d : decode cc pc = .ok (.if_icmp .eq off, 3)) (ht : (pc : Int) + off = (tgt : Int)) (kt : x = y → G T X ad n mc ms I J N Q tgt nL lv rest) (kf : ¬ x = y → G T X ad n mc ms I J N Q (pc + 3) nL lv rest) : G T X ad n mc ms I J N Q pc nL lv (.int y :: .int x :: rest) := fun H locs ls hP hD hS hl => lv_icmp_eq C.1 C.2.1 d ht (fun e => kt e H locs ls hP hD hS hl) (fun e => kf e H locs ls hP hD hS hl)
theorem g_if_eq (C : Cx X cc own nL ret rm) {x : Int32} {off : Int} (tgt : Nat) (d : decode cc pc = .ok (.ifCond .eq off, 3)) (ht : (pc : Int) + off = (tgt : Int)) (kt : x = 0 → G T X ad n mc ms I J N Q tgt nL lv rest) (kf : ¬ x = 0 → G T X ad n mc ms I J N Q (pc + 3) nL lv rest) : G T X ad n mc ms I J N Q pc nL lv (.int x :: rest) := fun H locs ls hP hD hS hl => lv_if_eq C.1 C.2.1 d ht (fun e => kt e H locs ls hP hD hS hl) (fun e => kf e H locs ls hP hD hS hl)
theorem g_lcmp_eq (C : Cx X cc own nL ret rm) {x y : Int64} {off : Int} (tgt : Nat) (d0 : decode cc pc = .ok (.lcmp, 1)) (d : decode cc (pc + 1) = .ok (.ifCond .eq off, 3)) (ht : ((pc + 1 : Nat) : Int) + off = (tgt : Int)) (kt : x = y → G T X ad n mc ms I J N Q tgt nL lv rest) (kf : ¬ x = y → G T X ad n mc ms I J N Q (pc + 1 + 3) nL lv rest) : G T X ad n mc ms I J N Q pc nL lv (.long y :: .long x :: rest) := fun H locs ls hP hD hS hl => W.lcmp C.1 C.2.1 d0 (lv_if_eq C.1 C.2.1 d ht (fun e => kt ((lg_cmp_eq x y).mp e) H locs ls hP hD hS hl) (fun e => kf (fun q => e ((lg_cmp_eq x y).mpr q)) H locs ls hP hD hS hl))
theorem g_icmp_ne (C : Cx X cc own nL ret rm) {x y : Int32} {off : Int} (tgt : Nat) (d : decode cc pc = .ok (.if_icmp .ne off, 3)) (ht : (pc : Int) + off = (tgt : Int)) (kt : ¬ x = y → G T X ad n mc ms I J N Q tgt nL lv rest) (kf : x = y → G T X ad n mc ms I J N Q (pc + 3) nL lv rest) : G T X ad n mc ms I J N Q pc nL lv (.int y :: .int x :: rest) := fun H locs ls hP hD hS hl => lv_icmp_ne C.1 C.2.1 d ht (fun e => kt e H locs ls hP hD hS hl) (fun e => kf e H locs ls hP hD hS hl)
theorem g_if_ne (C : Cx X cc own nL ret rm) {x : Int32} {off : Int} (tgt : Nat) (d : decode cc pc = .ok (.ifCond .ne off, 3)) (ht : (pc : Int) + off = (tgt : Int)) (kt : ¬ x = 0 → G T X ad n mc ms I J N Q tgt nL lv rest) (kf : x = 0 → G T X ad n mc ms I J N Q (pc + 3) nL lv rest) : G T X ad n mc ms I J N Q pc nL lv (.int x :: rest) := fun H locs ls hP hD hS hl => lv_if_ne C.1 C.2.1 d ht (fun e => kt e H locs ls hP hD hS hl) (fun e => kf e H locs ls hP hD hS hl)
theorem g_lcmp_ne (C : Cx X cc own nL ret rm) {x y : Int64} {off : Int} (tgt : Nat) (d0 : decode cc pc = .ok (.lcmp, 1)) (d : decode cc (pc + 1) = .ok (.ifCond .ne off, 3)) (ht : ((pc + 1 : Nat) : Int) + off = (tgt : Int)) (kt : ¬ x = y → G T X ad n mc ms I J N Q tgt nL lv rest) (kf : x = y → G T X ad n mc ms I J N Q (pc + 1 + 3) nL lv rest) : G T X ad n mc ms I J N Q pc nL lv (.long y :: .long x :: rest) := fun H locs ls hP hD hS hl => W.lcmp C.1 C.2.1 d0 (lv_if_ne C.1 C.2.1 d ht (fun e => kt (fun q => e ((lg_cmp_eq x y).mpr q)) H locs ls hP hD hS hl) (fun e => kf ((lg_cmp_eq x y).mp e) H locs ls hP hD hS hl))
theorem g_icmp_lt (C : Cx X cc own nL ret rm) {x y : Int32} {off : Int} (tgt : Nat) (d : decode cc pc = .ok (.if_icmp .lt off, 3)) (ht : (pc : Int) + off = (tgt : Int)) (kt : x < y → G T X ad n mc ms I J N Q tgt nL lv rest) (kf : ¬ x < y → G T X ad n mc ms I J N Q (pc + 3) nL lv rest) : G T X ad n mc ms I J N Q pc nL lv (.int y :: .int x :: rest) := fun H locs ls hP hD hS hl => lv_icmp_lt C.1 C.2.1 d ht (fun e => kt e H locs ls hP hD hS hl) (fun e => kf e H locs ls hP hD hS hl)
theorem g_if_lt (C : Cx X cc own nL ret rm) {x : Int32} {off : Int} (tgt : Nat) (d : decode cc pc = .ok (.ifCond .lt off, 3)) (ht : (pc : Int) + off = (tgt : Int)) (kt : x < 0 → G T X ad n mc ms I J N Q tgt nL lv rest) (kf : ¬ x < 0 → G T X ad n mc ms I J N Q (pc + 3) nL lv rest) : G T X ad n mc ms I J N Q pc nL lv (.int x :: rest) := fun H locs ls hP hD hS hl => lv_if_lt C.1 C.2.1 d ht (fun e => kt e H locs ls hP hD hS hl) (fun e => kf e H locs ls hP hD hS hl)
theorem g_lcmp_lt (C : Cx X cc own nL ret rm) {x y : Int64} {off : Int} (tgt : Nat) (d0 : decode cc pc = .ok (.lcmp, 1)) (d : decode cc (pc + 1) = .ok (.ifCond .lt off, 3)) (ht : ((pc + 1 : Nat) : Int) + off = (tgt : Int)) (kt : x < y → G T X ad n mc ms I J N Q tgt nL lv rest) (kf : ¬ x < y → G T X ad n mc ms I J N Q (pc + 1 + 3) nL lv rest) : G T X ad n mc ms I J N Q pc nL lv (.long y :: .long x :: rest) := fun H locs ls hP hD hS hl => W.lcmp C.1 C.2.1 d0 (lv_if_lt C.1 C.2.1 d ht (fun e => kt ((lg_cmp_lt x y).mp e) H locs ls hP hD hS hl) (fun e => kf (fun q => e ((lg_cmp_lt x y).mpr q)) H locs ls hP hD hS hl))
theorem g_icmp_ge (C : Cx X cc own nL ret rm) {x y : Int32} {off : Int} (tgt : Nat) (d : decode cc pc = .ok (.if_icmp .ge off, 3)) (ht : (pc : Int) + off = (tgt : Int)) (kt : y ≤ x → G T X ad n mc ms I J N Q tgt nL lv rest) (kf : ¬ y ≤ x → G T X ad n mc ms I J N Q (pc + 3) nL lv rest) : G T X ad n mc ms I J N Q pc nL lv (.int y :: .int x :: rest) := fun H locs ls hP hD hS hl => lv_icmp_ge C.1 C.2.1 d ht (fun e => kt e H locs ls hP hD hS hl) (fun e => kf e H locs ls hP hD hS hl)
theorem g_if_ge (C : Cx X cc own nL ret rm) {x : Int32} {off : Int} (tgt : Nat) (d : decode cc pc = .ok (.ifCond .ge off, 3)) (ht : (pc : Int) + off = (tgt : Int)) (kt : 0 ≤ x → G T X ad n mc ms I J N Q tgt nL lv rest) (kf : ¬ 0 ≤ x → G T X ad n mc ms I J N Q (pc + 3) nL lv rest) : G T X ad n mc ms I J N Q pc nL lv (.int x :: rest) := fun H locs ls hP hD hS hl => lv_if_ge C.1 C.2.1 d ht (fun e => kt e H locs ls hP hD hS hl) (fun e => kf e H locs ls hP hD hS hl)
theorem g_lcmp_ge (C : Cx X cc own nL ret rm) {x y : Int64} {off : Int} (tgt : Nat) (d0 : decode cc pc = .ok (.lcmp, 1)) (d : decode cc (pc + 1) = .ok (.ifCond .ge off, 3)) (ht : ((pc + 1 : Nat) : Int) + off = (tgt : Int)) (kt : y ≤ x → G T X ad n mc ms I J N Q tgt nL lv rest) (kf : ¬ y ≤ x → G T X ad n mc ms I J N Q (pc + 1 + 3) nL lv rest) : G T X ad n mc ms I J N Q pc nL lv (.long y :: .long x :: rest) := fun H locs ls hP hD hS hl => W.lcmp C.1 C.2.1 d0 (lv_if_ge C.1 C.2.1 d ht (fun e => kt ((lg_cmp_ge x y).mp e) H locs ls hP hD hS hl) (fun e => kf (fun q => e ((lg_cmp_ge x y).mpr q)) H locs ls hP hD hS hl))
theorem g_icmp_gt (C : Cx X cc own nL ret rm) {x y : Int32} {off : Int} (tgt : Nat) (d : decode cc pc = .ok (.if_icmp .gt off, 3)) (ht : (pc : Int) + off = (tgt : Int)) (kt : y < x → G T X ad n mc ms I J N Q tgt nL lv rest) (kf : ¬ y < x → G T X ad n mc ms I J N Q (pc + 3) nL lv rest) : G T X ad n mc ms I J N Q pc nL lv (.int y :: .int x :: rest) := fun H locs ls hP hD hS hl => lv_icmp_gt C.1 C.2.1 d ht (fun e => kt e H locs ls hP hD hS hl) (fun e => kf e H locs ls hP hD hS hl)
theorem g_if_gt (C : Cx X cc own nL ret rm) {x : Int32} {off : Int} (tgt : Nat) (d : decode cc pc = .ok (.ifCond .gt off, 3)) (ht : (pc : Int) + off = (tgt : Int)) (kt : 0 < x → G T X ad n mc ms I J N Q tgt nL lv rest) (kf : ¬ 0 < x → G T X ad n mc ms I J N Q (pc + 3) nL lv rest) : G T X ad n mc ms I J N Q pc nL lv (.int x :: rest) := fun H locs ls hP hD hS hl => lv_if_gt C.1 C.2.1 d ht (fun e => kt e H locs ls hP hD hS hl) (fun e => kf e H locs ls hP hD hS hl)
theorem g_lcmp_gt (C : Cx X cc own nL ret rm) {x y : Int64} {off : Int} (tgt : Nat) (d0 : decode cc pc = .ok (.lcmp, 1)) (d : decode cc (pc + 1) = .ok (.ifCond .gt off, 3)) (ht : ((pc + 1 : Nat) : Int) + off = (tgt : Int)) (kt : y < x → G T X ad n mc ms I J N Q tgt nL lv rest) (kf : ¬ y < x → G T X ad n mc ms I J N Q (pc + 1 + 3) nL lv rest) : G T X ad n mc ms I J N Q pc nL lv (.long y :: .long x :: rest) := fun H locs ls hP hD hS hl => W.lcmp C.1 C.2.1 d0 (lv_if_gt C.1 C.2.1 d ht (fun e => kt ((lg_cmp_gt x y).mp e) H locs ls hP hD hS hl) (fun e => kf (fun q => e ((lg_cmp_gt x y).mpr q)) H locs ls hP hD hS hl))
theorem g_icmp_le (C : Cx X cc own nL ret rm) {x y : Int32} {off : Int} (tgt : Nat) (d : decode cc pc = .ok (.if_icmp .le off, 3)) (ht : (pc : Int) + off = (tgt : Int)) (kt : x ≤ y → G T X ad n mc ms I J N Q tgt nL lv rest) (kf : ¬ x ≤ y → G T X ad n mc ms I J N Q (pc + 3) nL lv rest) : G T X ad n mc ms I J N Q pc nL lv (.int y :: .int x :: rest) := fun H locs ls hP hD hS hl => lv_icmp_le C.1 C.2.1 d ht (fun e => kt e H locs ls hP hD hS hl) (fun e => kf e H locs ls hP hD hS hl)
theorem g_if_le (C : Cx X cc own nL ret rm) {x : Int32} {off : Int} (tgt : Nat) (d : decode cc pc = .ok (.ifCond .le off, 3)) (ht : (pc : Int) + off = (tgt : Int)) (kt : x ≤ 0 → G T X ad n mc ms I J N Q tgt nL lv rest) (kf : ¬ x ≤ 0 → G T X ad n mc ms I J N Q (pc + 3) nL lv rest) : G T X ad n mc ms I J N Q pc nL lv (.int x :: rest) := fun H locs ls hP hD hS hl => lv_if_le C.1 C.2.1 d ht (fun e => kt e H locs ls hP hD hS hl) (fun e => kf e H locs ls hP hD hS hl)
theorem g_lcmp_le (C : Cx X cc own nL ret rm) {x y : Int64} {off : Int} (tgt : Nat) (d0 : decode cc pc = .ok (.lcmp, 1)) (d : decode cc (pc + 1) = .ok (.ifCond .le off, 3)) (ht : ((pc + 1 : Nat) : Int) + off = (tgt : Int)) (kt : x ≤ y → G T X ad n mc ms I J N Q tgt nL lv rest) (kf : ¬ x ≤ y → G T X ad n mc ms I J N Q (pc + 1 + 3) nL lv rest) : G T X ad n mc ms I J N Q pc nL lv (.long y :: .long x :: rest) := fun H locs ls hP hD hS hl => W.lcmp C.1 C.2.1 d0 (lv_if_le C.1 C.2.1 d ht (fun e => kt ((lg_cmp_le x y).mp e) H locs ls hP hD hS hl) (fun e => kf (fun q => e ((lg_cmp_le x y).mpr q)) H locs ls hP hD hS hl))
theorem g_goto (C : Cx X cc own nL ret rm) {off : Int} (tgt : Nat) {st : List Value} (d : decode cc pc = .ok (.goto off, 3)) (ht : (pc : Int) + off = (tgt : Int)) (k : G T X ad n mc ms I J N Q tgt nL lv st) : G T X ad n mc ms I J N Q pc nL lv st := fun H locs ls hP hD hS hl => lv_goto C.1 C.2.1 d ht (k H locs ls hP hD hS hl)
theorem g_tableIn (C : Cx X cc own nL ret rm) {dflt lo hi : Int} {offs : Array Int} {len : Nat} {x : Int32} {off : Int} (tgt : Nat) (d : decode cc pc = .ok (.tableswitch dflt lo hi offs, len)) (h1 : ¬ x.toInt < lo) (h2 : ¬ hi < x.toInt) (ho : offs[(x.toInt - lo).toNat]? = some off) (ht : (pc : Int) + off = (tgt : Int)) (k : G T X ad n mc ms I J N Q tgt nL lv rest) : G T X ad n mc ms I J N Q pc nL lv (.int x :: rest) := fun H locs ls hP hD hS hl => lv_tableIn C.1 C.2.1 d h1 h2 ho ht (k H locs ls hP hD hS hl)
theorem g_tableOut (C : Cx X cc own nL ret rm) {dflt lo hi : Int} {offs : Array Int} {len : Nat} {x : Int32} (tgt : Nat) (d : decode cc pc = .ok (.tableswitch dflt lo hi offs, len)) (h : x.toInt < lo ∨ hi < x.toInt) (ht : (pc : Int) + dflt = (tgt : Int)) (k : G T X ad n mc ms I J N Q tgt nL lv rest) : G T X ad n mc ms I J N Q pc nL lv (.int x :: rest) := fun H locs ls hP hD hS hl => lv_tableOut C.1 C.2.1 d h ht (k H locs ls hP hD hS hl)
theorem g_iret (C : Cx X cc own nL (some .int) rm) {v : Int32} (d : decode cc pc = .ok (.ireturn, 1)) : G T X ad n 0 0 I J N (gE X T ad n (I, J, N, fun _ => some (.int v))) pc nL lv [.int v] := fun H locs ls hP hD hS hl => W.iret C.1 C.2.1 C.2.2.2.2.2.1 (fun t ht hW => ⟨⟨rfl, by rw [ht]; exact hP⟩, hS.F ht⟩) hS.2.2 d C.2.2.2.2.2.2.1
theorem g_zret (C : Cx X cc own nL (some .boolean) rm) {v : Int32} (hn : narrow .boolean (.int v) = .int v) (d : decode cc pc = .ok (.ireturn, 1)) : G T X ad n 0 0 I J N (gE X T ad n (I, J, N, fun _ => some (.int v))) pc nL lv [.int v] := fun H locs ls hP hD hS hl => W.zret C.1 C.2.1 C.2.2.2.2.2.1 hn (fun t ht hW => ⟨⟨rfl, by rw [ht]; exact hP⟩, hS.F ht⟩) hS.2.2 d C.2.2.2.2.2.2.1
theorem g_lret (C : Cx X cc own nL (some .long) rm) {v : Int64} (d : decode cc pc = .ok (.lreturn, 1)) : G T X ad n 0 0 I J N (gE X T ad n (I, J, N, fun _ => some (.long v))) pc nL lv [.long v] := fun H locs ls hP hD hS hl => W.lret C.1 C.2.1 C.2.2.2.2.2.1 (fun t ht hW => ⟨⟨rfl, by rw [ht]; exact hP⟩, hS.F ht⟩) hS.2.2 d C.2.2.2.2.2.2.1
theorem g_vret (C : Cx X cc own nL none rm) (d : decode cc pc = .ok (.return_, 1)) : G T X ad n 0 0 I J N (gE X T ad n (I, J, N, fun _ => none)) pc nL lv [] := fun H locs ls hP hD hS hl => W.vret C.1 C.2.1 C.2.2.2.2.2.1 (fun t ht hW => ⟨⟨rfl, by rw [ht]; exact hP⟩, hS.F ht⟩) hS.2.2 d C.2.2.2.2.2.2.1
theorem g_aret {cn : String} {b : Nat} (C : Cx X cc own nL (some (.object cn)) rm) (d : decode cc pc = .ok (.areturn, 1)) : G T X ad n 0 0 I J N (gE X T ad n (I, J, N, fun ad => some (.ref (ad b)))) pc nL lv [.ref (ad b)] := fun H locs ls hP hD hS hl => W.aret C.1 C.2.1 C.2.2.2.2.2.1 (Or.inl ⟨_, rfl⟩) (Or.inr ⟨_, rfl⟩) (fun t ht hW => ⟨⟨rfl, by rw [ht]; exact hP⟩, hS.F ht⟩) hS.2.2 d C.2.2.2.2.2.2.1
theorem g_get (C : Cx X cc own nL ret rm) {a ci idx k NF : Nat} {Cn : String} {TF : u_T} {v : Value} (hc : gcl[ci]? = some (Cn, TF, NF)) (hin : ∀ w ∈ u_ws Cn TF NF, w ∈ lw_g) (hk : k < NF) (hlink : Cond.fieldLink own idx (TF k).1 (TF k).2.1 (TF k).2.2.1 ∈ lw_g) (ha : gk T n a (0, ci)) (hv : (gob ad I J N ci a)[k]? = some v) (d : decode cc pc = .ok (.getfield idx, 3)) (kk : G T X ad n mc ms I J N Q (pc + 3) nL lv (v :: rest)) : G T X ad n mc ms I J N Q pc nL lv (.ref (ad a) :: rest) := fun H locs ls hP hD hS hl =>
  va_get C.1 C.2.1 C.2.2.2.2.1 hin C.2.2.2.1 C.2.2.2.2.2.2.2.1 hP a (by rw [gwd_at ha.1, gce_o ha]) hc k hk (C.2.2.2.2.1 _ hlink) (fun _ h => h) hv d (kk H locs ls hP hD hS hl)
theorem g_getN (C : Cx X cc own nL ret rm) {a ci idx k NF : Nat} {Cn host : String} {TF : u_T} {v : Value} (hc : gcl[ci]? = some (Cn, TF, NF)) (hin : ∀ w ∈ u_ws Cn TF NF, w ∈ lw_g) (hk : k < NF) (hlink : Cond.fieldLinkNest own idx (TF k).1 (TF k).2.1 (TF k).2.2.1 host ∈ lw_tbl) (ha : gk T n a (0, ci)) (hv : (gob ad I J N ci a)[k]? = some v) (d : decode cc pc = .ok (.getfield idx, 3)) (kk : G T X ad n mc ms I J N Q (pc + 3) nL lv (v :: rest)) : G T X ad n mc ms I J N Q pc nL lv (.ref (ad a) :: rest) := fun H locs ls hP hD hS hl =>
  va_getN C.1 C.2.1 C.2.2.2.2.1 hin C.2.2.2.1 C.2.2.2.2.2.2.2.1 hP a (by rw [gwd_at ha.1, gce_o ha]) hc k hk (va_Nw.use rfl (C.2.2.2.2.2.2.2.2.2.2 _ hlink rfl)) (fun _ h => h) hv d (kk H locs ls hP hD hS hl)
theorem g_rf {a k b : Nat} (h : N a k = some b) : va_rf ((N a k).map ad) = .ref (ad b) := by rw [h]; rfl
/-- a reference on the stack, by the cell that it names -/
theorem g_top {v w : Value} (e : v = w) (k : G T X ad n mc ms I J N Q pc nL lv (w :: rest)) : G T X ad n mc ms I J N Q pc nL lv (v :: rest) := e ▸ k
theorem g_put (C : Cx X cc own nL ret rm) {a ci idx k NF : Nat} {Cn : String} {TF : u_T} {ty0 : Nat → FieldType} {ty : FieldType} {v : Value} {I' : HI} {J' : HJ} {N' : HN} (hc : gcl[ci]? = some (Cn, TF, NF)) (hin : ∀ w ∈ u_ws Cn TF NF, w ∈ lw_g) (hty : ∀ k, k < NF → parseFieldDescriptor (TF k).2.2.1 = some (ty0 k)) (hnm : ∀ a, a < NF → ∀ b, b < NF → a ≠ b → (TF a).2.1 ≠ (TF b).2.1) (hk : k < NF) (hlink : Cond.fieldLink own idx (TF k).1 (TF k).2.1 (TF k).2.2.1 ∈ lw_g) (hfin : (TF k).2.2.2 = false) (ha : gk T n a (0, ci)) (hd : parseFieldDescriptor (TF k).2.2.1 = some ty) (hn : narrow ty v = v) (hfit : fits ty v = true) (hl9 : k < (gob ad I J N ci a).length)
    (hset : gob ad I' J' N' ci a = (gob ad I J N ci a).set k v) (h1 : ∀ b, b ≠ a → I' b = I b) (h2 : ∀ b, b ≠ a → J' b = J b) (h3 : ∀ b, b ≠ a → N' b = N b) (d : decode cc pc = .ok (.putfield idx, 3)) (kk : G T X ad n mc ms I' J' N' Q (pc + 3) nL lv rest) : G T X ad n mc ms I J N Q pc nL lv (v :: .ref (ad a) :: rest) := fun H locs ls hP hD hS hl =>
  va_put C.1 C.2.1 C.2.2.2.2.1 hin ty0 hty hnm C.2.2.2.1 C.2.2.2.2.2.2.2.1 hP (gin_D hD T _ I J N) hS a (by rw [gwd_at ha.1, gce_o ha]) hc k hk (C.2.2.2.2.1 _ hlink) (fun _ h => h) hfin hd hn hfit hl9 d (fun H1 locs1 hP1 _ hS1 => kk H1 locs1 ls (by rw [gwd_set (by rw [gce_o ha, hset]) h1 h2 h3] at hP1; exact hP1) hD hS1 hl)
theorem g_putN (C : Cx X cc own nL ret rm) {a ci idx k NF : Nat} {Cn host : String} {TF : u_T} {ty0 : Nat → FieldType} {ty : FieldType} {v : Value} {I' : HI} {J' : HJ} {N' : HN} (hc : gcl[ci]? = some (Cn, TF, NF)) (hin : ∀ w ∈ u_ws Cn TF NF, w ∈ lw_g) (hty : ∀ k, k < NF → parseFieldDescriptor (TF k).2.2.1 = some (ty0 k)) (hnm : ∀ a, a < NF → ∀ b, b < NF → a ≠ b → (TF a).2.1 ≠ (TF b).2.1) (hk : k < NF) (hlink : Cond.fieldLinkNest own idx (TF k).1 (TF k).2.1 (TF k).2.2.1 host ∈ lw_tbl) (hfin : (TF k).2.2.2 = false) (ha : gk T n a (0, ci)) (hd : parseFieldDescriptor (TF k).2.2.1 = some ty) (hn : narrow ty v = v) (hfit : fits ty v = true) (hl9 : k < (gob ad I J N ci a).length)
    (hset : gob ad I' J' N' ci a = (gob ad I J N ci a).set k v) (h1 : ∀ b, b ≠ a → I' b = I b) (h2 : ∀ b, b ≠ a → J' b = J b) (h3 : ∀ b, b ≠ a → N' b = N b) (d : decode cc pc = .ok (.putfield idx, 3)) (kk : G T X ad n mc ms I' J' N' Q (pc + 3) nL lv rest) : G T X ad n mc ms I J N Q pc nL lv (v :: .ref (ad a) :: rest) := fun H locs ls hP hD hS hl =>
  va_putN C.1 C.2.1 C.2.2.2.2.1 hin ty0 hty hnm C.2.2.2.1 C.2.2.2.2.2.2.2.1 hP (gin_D hD T _ I J N) hS a (by rw [gwd_at ha.1, gce_o ha]) hc k hk (va_Nw.use rfl (C.2.2.2.2.2.2.2.2.2.2 _ hlink rfl)) (fun _ h => h) hfin hd hn hfit hl9 d (fun H1 locs1 hP1 _ hS1 => kk H1 locs1 ls (by rw [gwd_set (by rw [gce_o ha, hset]) h1 h2 h3] at hP1; exact hP1) hD hS1 hl)
theorem g_putF (C : Cx X cc own nL ret rm) {a ci idx k NF : Nat} {Cn : String} {TF : u_T} {ty0 : Nat → FieldType} {ty : FieldType} {v : Value} {I' : HI} {J' : HJ} {N' : HN} (hi : (xt X).name = "<init>") (hc : gcl[ci]? = some (Cn, TF, NF)) (hin : ∀ w ∈ u_ws Cn TF NF, w ∈ lw_g) (hty : ∀ k, k < NF → parseFieldDescriptor (TF k).2.2.1 = some (ty0 k)) (hnm : ∀ a, a < NF → ∀ b, b < NF → a ≠ b → (TF a).2.1 ≠ (TF b).2.1) (hk : k < NF) (hlink : Cond.fieldLink own idx (TF k).1 (TF k).2.1 (TF k).2.2.1 ∈ lw_g) (hfin : (TF k).2.2.2 = true) (hdecl : (TF k).1 = own) (ha : gk T n a (0, ci)) (hd : parseFieldDescriptor (TF k).2.2.1 = some ty) (hn : narrow ty v = v) (hfit : fits ty v = true) (hl9 : k < (gob ad I J N ci a).length)
    (hset : gob ad I' J' N' ci a = (gob ad I J N ci a).set k v) (h1 : ∀ b, b ≠ a → I' b = I b) (h2 : ∀ b, b ≠ a → J' b = J b) (h3 : ∀ b, b ≠ a → N' b = N b) (d : decode cc pc = .ok (.putfield idx, 3)) (kk : G T X ad n mc ms I' J' N' Q (pc + 3) nL lv rest) : G T X ad n mc ms I J N Q pc nL lv (v :: .ref (ad a) :: rest) := fun H locs ls hP hD hS hl =>
  va_putF C.1 C.2.1 C.2.2.2.2.1 hin ty0 hty hnm C.2.2.2.1 C.2.2.2.2.2.2.2.1 hP (gin_D hD T _ I J N) hS a (by rw [gwd_at ha.1, gce_o ha]) hc k hk (C.2.2.2.2.1 _ hlink) (fun _ h => h) hfin hi hdecl hd hn hfit hl9 d (fun H1 locs1 hP1 _ hS1 => kk H1 locs1 ls (by rw [gwd_set (by rw [gce_o ha, hset]) h1 h2 h3] at hP1; exact hP1) hD hS1 hl)
theorem g_iald (C : Cx X cc own nL ret rm) {a : Nat} {i : Int32} (ha : ga T n a 1) (hi : inb i (T a).2 = true) (d : decode cc pc = .ok (.iaload, 1)) (kk : G T X ad n mc ms I J N Q (pc + 1) nL lv (.int (I a i.toNatClampNeg) :: rest)) : G T X ad n mc ms I J N Q pc nL lv (.int i :: .ref (ad a) :: rest) := fun H locs ls hP hD hS hl =>
  va_iald C.1 C.2.1 C.2.2.2.2.2.2.2.1 hP a 0 (by rw [gwd_at ha.1, gce_i ha]) rfl (inb_in hi) d (kk H locs ls hP hD hS hl)
theorem g_lald (C : Cx X cc own nL ret rm) {a : Nat} {i : Int32} (ha : ga T n a 2) (hi : inb i (T a).2 = true) (d : decode cc pc = .ok (.laload, 1)) (kk : G T X ad n mc ms I J N Q (pc + 1) nL lv (.long (J a i.toNatClampNeg) :: rest)) : G T X ad n mc ms I J N Q pc nL lv (.int i :: .ref (ad a) :: rest) := fun H locs ls hP hD hS hl =>
  va_lald C.1 C.2.1 C.2.2.2.2.2.2.2.1 hP a 1 (by rw [gwd_at ha.1, gce_l ha]) rfl (inb_in hi) d (kk H locs ls hP hD hS hl)
theorem g_iast (C : Cx X cc own nL ret rm) {a : Nat} {i x : Int32} (ha : ga T n a 1) (hi : inb i (T a).2 = true) (d : decode cc pc = .ok (.iastore, 1)) (kk : G T X ad n mc ms (up2 I a i.toNatClampNeg x) J N Q (pc + 1) nL lv rest) : G T X ad n mc ms I J N Q pc nL lv (.int x :: .int i :: .ref (ad a) :: rest) := fun H locs ls hP hD hS hl =>
  va_iast C.1 C.2.1 C.2.2.2.2.2.2.2.1 hP (gin_D hD T _ I J N) hS a 0 (by rw [gwd_at ha.1, gce_i ha]) rfl (inb_in hi) d (fun H1 locs1 hP1 _ hS1 => kk H1 locs1 ls (by rw [gwd_set (I' := up2 I a i.toNatClampNeg x) (J' := J) (N' := N) (by rw [gce_i ha, up2_at]; rfl) (fun b hb => up2_of hb) (fun _ _ => rfl) (fun _ _ => rfl)] at hP1; exact hP1) hD hS1 hl)
theorem g_last (C : Cx X cc own nL ret rm) {a : Nat} {i : Int32} {x : Int64} (ha : ga T n a 2) (hi : inb i (T a).2 = true) (d : decode cc pc = .ok (.lastore, 1)) (kk : G T X ad n mc ms I (up2 J a i.toNatClampNeg x) N Q (pc + 1) nL lv rest) : G T X ad n mc ms I J N Q pc nL lv (.long x :: .int i :: .ref (ad a) :: rest) := fun H locs ls hP hD hS hl =>
  va_last C.1 C.2.1 C.2.2.2.2.2.2.2.1 hP (gin_D hD T _ I J N) hS a 1 (by rw [gwd_at ha.1, gce_l ha]) rfl (inb_in hi) d (fun H1 locs1 hP1 _ hS1 => kk H1 locs1 ls (by rw [gwd_set (I' := I) (J' := up2 J a i.toNatClampNeg x) (N' := N) (by rw [gce_l ha, up2_at]; rfl) (fun _ _ => rfl) (fun b hb => up2_of hb) (fun _ _ => rfl)] at hP1; exact hP1) hD hS1 hl)
theorem g_aald {b : Nat} (κ t0 : Nat) {tt : FieldType} (C : Cx X cc own nL ret rm) {a : Nat} {i : Int32} (ha : ga T n a κ) (hk : κ = 3 ∧ t0 = 2 ∧ tt = .array .int ∨ κ = 4 ∧ t0 = 3 ∧ tt = .array .long) (hi : inb i (T a).2 = true) (hb : N a i.toNatClampNeg = some b) (d : decode cc pc = .ok (.aaload, 1)) (kk : G T X ad n mc ms I J N Q (pc + 1) nL lv (.ref (ad b) :: rest)) : G T X ad n mc ms I J N Q pc nL lv (.int i :: .ref (ad a) :: rest) := fun H locs ls hP hD hS hl => by
  have hin := inb_in hi
  have hlt : i.toNatClampNeg < (T a).2 := Nat.not_le.mp fun q => hin (Or.inr q)
  have key : ∀ (cA : ClassId) (t1 : Nat) (t2 : FieldType), (gtys (xy X))[t1]? = some (cA, t2) → t2.isReference = true → gce T (xy X) ad I J N a = .inl (cA, (T a).2, .inr (.inr (.inr (.inr (fun k => (N a k).map ad))))) → W (xp X) (xl X) (xe X) (xR X) (xs X) (xm X) (xa X) (xb X) (xt X) (xc X) H locs mc ms Q (F0 (xm X) pc ls (.int i :: .ref (ad a) :: rest)) := by
    intro cA t1 t2 ht hr hg
    have hc := hP a _ (gwd_at ha.1)
    rw [hg] at hc
    exact W.aald (v := .ref (ad b)) (ty := t2) C.1 C.2.1 hc ((C.2.2.2.2.2.2.2.1.2 t1 _ ht).1 (T a).2 (fun j => va_rf ((N a j).map ad))) hr (fun q => by cases q) (by show ¬ (i < 0 ∨ (arrV _ _ _).slots.size ≤ _); rw [arrV_size]; exact hin) (by show (arrV _ _ _).slots[_]? = _; rw [arrV_read _ _ hlt]; show some (va_rf ((N a i.toNatClampNeg).map ad)) = _; rw [hb]; rfl) rfl rfl d (kk H locs ls hP hD hS hl)
  rcases hk with ⟨rfl, rfl, rfl⟩ | ⟨rfl, rfl, rfl⟩
  · exact key _ 2 (.array .int) rfl rfl (gce_a ha)
  · exact key _ 3 (.array .long) rfl rfl (gce_b ha)
/-- what a call wants of the tables, by kind: 0 virtual, 1 static, 2 special -/
def sM (y : MethodName) (cc : ByteArray) (nL : Nat) (ret : Option FieldType) (np : Nat) : Prop := Cond.code y cc nL ret ∈ lw_g ∧ Cond.initialized y.cls ∈ lw_g ∧ (y.cls ≠ "java/lang/invoke/MethodHandle" ∧ y.cls ≠ "java/lang/invoke/VarHandle" ∧ (parseMethodDescriptor y.desc).map (fun d => d.parameters.length) = some np)
theorem g_pre {D : va_G} {yc : Nat → ClassId} {sz : Nat} {av : List Value} : FrameBlind (gPc T D yc ad n sz I J N av) := fun a U g mk h => ⟨h.1, h.2.1, h.2.2.1, va_K.moved (u := U) (U := U.calling g mk a) (Vm.Alike.refl U.vm) h.2.2.2.1, nwS.same (u := U) (U := U.calling g mk a) rfl h.2.2.2.2.1, h.2.2.2.2.2⟩
theorem g_call {st0 : List Value} {a9 : Array Value} {I' : HI} {J' : HJ} {N' : HN} {rv : (Nat → Nat) → Option Value}
    (hr : ∀ (H : Heap) (locs : List Loc) (ls : Array Slot), va_P (xD X) gcl (gwd T (xy X) ad n I J N) H → gin (xA X) ad n → lv_has ls nL lv → va_Run (xp X) (xl X) (xe X) (xR X) (xs X) (xm X) (xa X) (xb X) (xt X) (xc X) H locs mc ms 0 0 (F0 (xm X) pc ls st0) rest (gQc T (xD X) (xy X) ad n (gA ad n H.size) (I', J', N', rv) a9) (gA ad n H.size))
    (hA : ∀ q, (xs X).heap.size ≤ q → xA X q)
    (k : G T X ad n mc ms I' J' N' Q (pc + 3) nL lv ((rv ad).toList ++ rest)) : G T X ad n mc ms I J N Q pc nL lv st0 := by
  intro H locs ls hP hD hS hl T0 hT XS
  obtain ⟨v, st₀, t, T', L, h0, X', hL, e1, e2, ⟨⟨hv, hP1⟩, hz, hk⟩, st⟩ := hr H locs ls hP hD hl T0 hT XS
  have hA0 : ∀ q, gA ad n H.size q → xA X q := fun q h => by
    rcases h with ⟨i, hi, rfl⟩ | h
    · exact hD.2 i hi
    · exact hA q (Nat.le_trans hS.1 h)
  cases hv
  rw [h0] at hz hk
  obtain ⟨t2, a1, b1⟩ := k T'.heap (locs ++ L) ls (by rw [e1]; exact hP1) hD ⟨Nat.le_trans hS.1 (by rw [e1]; exact hz), fun q h1 h2 => by rw [e1, hk q (Nat.lt_of_lt_of_le h1 hS.1) (fun z => h2 (hA0 q z))]; exact hS.2.1 q h1 h2, fun q hq => by
      rcases List.mem_append.mp hq with h | h
      · exact hS.2.2 q h
      · exact hA0 _ (hL q h)⟩ hl T' rfl X'
  exact ⟨t2, st t2 a1, b1⟩
theorem g_V {y : MethodName} {cc2 : ByteArray} {nL2 np idx ci b : Nat} {ret2 : Option FieldType} {rm2 : Room} {I' : HI} {J' : HJ} {N' : HN} {rv : (Nat → Nat) → Option Value} {As : (Nat → Nat) → List Value} {st0 : List Value} {Cn : String} {TF : u_T} {NF : Nat} (C : Cx X cc own nL ret rm) (M : gM (xl X) y cc2 nL2 ret2 rm2 T n I J N (fun ad => .ref (ad b) :: As ad) (I', J', N', rv)) (S : sM y cc2 nL2 ret2 np) (w1 : Cond.methodLink own idx y ∈ lw_g) (w2 : Cond.instanceMethod y ∈ lw_g) (w3 : Cond.selects y.cls y y ∈ lw_g) (hc : gcl[ci]? = some (Cn, TF, NF)) (hcn : Cn = y.cls) (hb : gk T n b (0, ci)) (hR : rm2.cells = 0 ∧ rm2.slots = 0 ∧ rm2.frames + 1 ≤ rm.frames ∧ 8 + (nL2 + 11) + rm2.locals ≤ rm.locals) (hf : mc ≤ rm.cells ∧ ms ≤ rm.slots) (hn : (As ad).length = np) (hst : st0 = (As ad).reverse ++ .ref (ad b) :: rest) (hW : (rest.map fun v => v.category).sum ≤ 8) (d : decode cc pc = .ok (.invokevirtual idx, 3))
    (st1 : List Value) (hst1 : (rv ad).toList ++ rest = st1) (k : G T X ad n mc ms I' J' N' Q (pc + 3) nL lv st1) : G T X ad n mc ms I J N Q pc nL lv st0 := by
  subst hst1
  have eR := C.2.2.2.2.2.2.2.2.2.1
  subst hcn
  refine g_call (a9 := (Value.ref (ad b) :: As ad).toArray) (fun H locs ls hP hD hl => ?_) C.2.2.2.2.2.2.2.2.1 k
  exact va_runV (b := ad b) (As := As ad) (n := np) ⟨C.1, C.2.1, C.2.2.1, C.2.2.2.1, C.2.2.2.2.1⟩ (M (xD X) (xy X) ad H.size) ⟨callB_of np C.2.2.2.2.1 (lw_gi S.1) rfl hR.1 hR.2.1 (C.2.2.2.2.1 _ S.2.1) (C.2.2.2.2.1 _ w1) S.2.2 (by rw [eR]; exact hR.2.2), C.2.2.2.2.1 _ w2, C.2.2.2.2.1 _ w3⟩ ⟨g_pre, va_recv C.2.2.2.2.2.2.2.1 hP hc (by rw [gwd_at hb.1, gce_o hb]), fun U hU hWm => ⟨rfl, by rw [hU], by rw [hU]; exact hP, va_K.moved hWm.alike C.2.2.2.2.2.2.2.1, nwS.warm hWm C.2.2.2.2.2.2.2.2.2.2, hD.1⟩⟩ rfl hn hl.1 (by rw [hst]) (lv_room hW) d (by rw [eR]; exact hf)
theorem g_VN {y : MethodName} {cc2 : ByteArray} {nL2 np idx ci b : Nat} {ret2 : Option FieldType} {rm2 : Room} {I' : HI} {J' : HJ} {N' : HN} {rv : (Nat → Nat) → Option Value} {As : (Nat → Nat) → List Value} {st0 : List Value} {Cn host : String} {TF : u_T} {NF : Nat} (C : Cx X cc own nL ret rm) (M : gM (xl X) y cc2 nL2 ret2 rm2 T n I J N (fun ad => .ref (ad b) :: As ad) (I', J', N', rv)) (S : sM y cc2 nL2 ret2 np) (w1 : Cond.methodLinkNest own idx y host ∈ lw_tbl) (w2 : Cond.instanceMethod y ∈ lw_g) (w3 : Cond.selects y.cls y y ∈ lw_g) (hc : gcl[ci]? = some (Cn, TF, NF)) (hcn : Cn = y.cls) (hb : gk T n b (0, ci)) (hR : rm2.cells = 0 ∧ rm2.slots = 0 ∧ rm2.frames + 1 ≤ rm.frames ∧ 8 + (nL2 + 11) + rm2.locals ≤ rm.locals) (hf : mc ≤ rm.cells ∧ ms ≤ rm.slots) (hn : (As ad).length = np) (hst : st0 = (As ad).reverse ++ .ref (ad b) :: rest) (hW : (rest.map fun v => v.category).sum ≤ 8) (d : decode cc pc = .ok (.invokevirtual idx, 3))
    (st1 : List Value) (hst1 : (rv ad).toList ++ rest = st1) (k : G T X ad n mc ms I' J' N' Q (pc + 3) nL lv st1) : G T X ad n mc ms I J N Q pc nL lv st0 := by
  subst hst1
  have eR := C.2.2.2.2.2.2.2.2.2.1
  subst hcn
  refine g_call (a9 := (Value.ref (ad b) :: As ad).toArray) (fun H locs ls hP hD hl => ?_) C.2.2.2.2.2.2.2.2.1 k
  exact va_runVN (b := ad b) (As := As ad) (n := np) ⟨C.1, C.2.1, C.2.2.1, C.2.2.2.1, C.2.2.2.2.1⟩ (M (xD X) (xy X) ad H.size) ⟨va_cnB np C.2.2.2.2.1 (lw_gi S.1) rfl hR.1 hR.2.1 (C.2.2.2.2.2.2.2.2.2.2 _ w1 rfl) (C.2.2.2.2.1 _ S.2.1) S.2.2 (by rw [eR]; exact hR.2.2), C.2.2.2.2.1 _ w2, C.2.2.2.2.1 _ w3⟩ ⟨g_pre, va_recv C.2.2.2.2.2.2.2.1 hP hc (by rw [gwd_at hb.1, gce_o hb]), fun U hU hWm => ⟨rfl, by rw [hU], by rw [hU]; exact hP, va_K.moved hWm.alike C.2.2.2.2.2.2.2.1, nwS.warm hWm C.2.2.2.2.2.2.2.2.2.2, hD.1⟩⟩ rfl hn hl.1 (by rw [hst]) (lv_room hW) d (by rw [eR]; exact hf)
theorem g_S {y : MethodName} {cc2 : ByteArray} {nL2 np idx : Nat} {ret2 : Option FieldType} {rm2 : Room} {I' : HI} {J' : HJ} {N' : HN} {rv : (Nat → Nat) → Option Value} {As : (Nat → Nat) → List Value} {st0 : List Value} (C : Cx X cc own nL ret rm) (M : gM (xl X) y cc2 nL2 ret2 rm2 T n I J N As (I', J', N', rv)) (S : sM y cc2 nL2 ret2 np) (w1 : Cond.methodLink own idx y ∈ lw_g) (w2 : Cond.static y ∈ lw_g) (hR : rm2.cells = 0 ∧ rm2.slots = 0 ∧ rm2.frames + 1 ≤ rm.frames ∧ 8 + (nL2 + 11) + rm2.locals ≤ rm.locals) (hf : mc ≤ rm.cells ∧ ms ≤ rm.slots) (hn : (As ad).length = np) (hst : st0 = (As ad).reverse ++ rest) (hW : (rest.map fun v => v.category).sum ≤ 8) (d : decode cc pc = .ok (.invokestatic idx, 3))
    (st1 : List Value) (hst1 : (rv ad).toList ++ rest = st1) (k : G T X ad n mc ms I' J' N' Q (pc + 3) nL lv st1) : G T X ad n mc ms I J N Q pc nL lv st0 := by
  subst hst1
  have eR := C.2.2.2.2.2.2.2.2.2.1
  refine g_call (a9 := (As ad).toArray) (fun H locs ls hP hD hl => ?_) C.2.2.2.2.2.2.2.2.1 k
  exact va_runS (As := As ad) (n := np) ⟨C.1, C.2.1, C.2.2.1, C.2.2.2.1, C.2.2.2.2.1⟩ (M (xD X) (xy X) ad H.size) ⟨callB_of np C.2.2.2.2.1 (lw_gi S.1) rfl hR.1 hR.2.1 (C.2.2.2.2.1 _ S.2.1) (C.2.2.2.2.1 _ w1) S.2.2 (by rw [eR]; exact hR.2.2), C.2.2.2.2.1 _ w2⟩ ⟨g_pre, fun U hU hWm => ⟨rfl, by rw [hU], by rw [hU]; exact hP, va_K.moved hWm.alike C.2.2.2.2.2.2.2.1, nwS.warm hWm C.2.2.2.2.2.2.2.2.2.2, hD.1⟩⟩ rfl hn hl.1 (by rw [hst]) (lv_room hW) d (by rw [eR]; exact hf)
theorem g_SN {y : MethodName} {cc2 : ByteArray} {nL2 np idx : Nat} {ret2 : Option FieldType} {rm2 : Room} {I' : HI} {J' : HJ} {N' : HN} {rv : (Nat → Nat) → Option Value} {As : (Nat → Nat) → List Value} {st0 : List Value} {host : String} (C : Cx X cc own nL ret rm) (M : gM (xl X) y cc2 nL2 ret2 rm2 T n I J N As (I', J', N', rv)) (S : sM y cc2 nL2 ret2 np) (w1 : Cond.methodLinkNest own idx y host ∈ lw_tbl) (w2 : Cond.static y ∈ lw_g) (hR : rm2.cells = 0 ∧ rm2.slots = 0 ∧ rm2.frames + 1 ≤ rm.frames ∧ 8 + (nL2 + 11) + rm2.locals ≤ rm.locals) (hf : mc ≤ rm.cells ∧ ms ≤ rm.slots) (hn : (As ad).length = np) (hst : st0 = (As ad).reverse ++ rest) (hW : (rest.map fun v => v.category).sum ≤ 8) (d : decode cc pc = .ok (.invokestatic idx, 3))
    (st1 : List Value) (hst1 : (rv ad).toList ++ rest = st1) (k : G T X ad n mc ms I' J' N' Q (pc + 3) nL lv st1) : G T X ad n mc ms I J N Q pc nL lv st0 := by
  subst hst1
  have eR := C.2.2.2.2.2.2.2.2.2.1
  refine g_call (a9 := (As ad).toArray) (fun H locs ls hP hD hl => ?_) C.2.2.2.2.2.2.2.2.1 k
  exact va_runSN (As := As ad) (n := np) ⟨C.1, C.2.1, C.2.2.1, C.2.2.2.1, C.2.2.2.2.1⟩ (M (xD X) (xy X) ad H.size) ⟨va_cnB np C.2.2.2.2.1 (lw_gi S.1) rfl hR.1 hR.2.1 (C.2.2.2.2.2.2.2.2.2.2 _ w1 rfl) (C.2.2.2.2.1 _ S.2.1) S.2.2 (by rw [eR]; exact hR.2.2), C.2.2.2.2.1 _ w2, trivial⟩ ⟨g_pre, fun U hU hWm => ⟨rfl, by rw [hU], by rw [hU]; exact hP, va_K.moved hWm.alike C.2.2.2.2.2.2.2.1, nwS.warm hWm C.2.2.2.2.2.2.2.2.2.2, hD.1⟩⟩ rfl hn hl.1 (by rw [hst]) (lv_room hW) d (by rw [eR]; exact hf)
theorem g_max (C : Cx X cc own nL ret rm) {idx : Nat} {x y : Int32} (w1 : Cond.methodLink own idx Lib.Math.max.name ∈ lw_g) (w2 : Cond.static Lib.Math.max.name ∈ lw_g) (w3 : Cond.initialized "java/lang/Math" ∈ lw_g) (w4 : Cond.code Lib.Math.max.name Lib.Math.max.code 2 (some .int) ∈ lw_g) (hR : 1 ≤ rm.frames ∧ (rest.map fun v => v.category).sum + 13 ≤ rm.locals ∧ mc ≤ rm.cells ∧ ms ≤ rm.slots) (d : decode cc pc = .ok (.invokestatic idx, 3)) (k : G T X ad n mc ms I J N Q (pc + 3) nL lv (.int (if x < y then y else x) :: rest)) : G T X ad n mc ms I J N Q pc nL lv (.int y :: .int x :: rest) := fun H locs ls hP hD hS hl => by
  have eR := C.2.2.2.2.2.2.2.2.2.1
  exact va_mmax C.1 C.2.1 (C.2.2.1.trans hl.1.symm) C.2.2.2.1 (C.2.2.2.2.1 _ w1) (C.2.2.2.2.1 _ w2) (C.2.2.2.2.1 _ w3) (C.2.2.2.2.1 _ w4) (by rw [eR]; exact hR.1) (by rw [eR]; exact hR.2.1) (by rw [eR]; exact hR.2.2.1) (by rw [eR]; exact hR.2.2.2) d (k H locs ls hP hD hS hl)
theorem g_min (C : Cx X cc own nL ret rm) {idx : Nat} {x y : Int32} (w1 : Cond.methodLink own idx Lib.Math.min.name ∈ lw_g) (w2 : Cond.static Lib.Math.min.name ∈ lw_g) (w3 : Cond.initialized "java/lang/Math" ∈ lw_g) (w4 : Cond.code Lib.Math.min.name Lib.Math.min.code 2 (some .int) ∈ lw_g) (hR : 1 ≤ rm.frames ∧ (rest.map fun v => v.category).sum + 13 ≤ rm.locals ∧ mc ≤ rm.cells ∧ ms ≤ rm.slots) (d : decode cc pc = .ok (.invokestatic idx, 3)) (k : G T X ad n mc ms I J N Q (pc + 3) nL lv (.int (if y < x then y else x) :: rest)) : G T X ad n mc ms I J N Q pc nL lv (.int y :: .int x :: rest) := fun H locs ls hP hD hS hl => by
  have eR := C.2.2.2.2.2.2.2.2.2.1
  exact va_mmin C.1 C.2.1 (C.2.2.1.trans hl.1.symm) C.2.2.2.1 (C.2.2.2.2.1 _ w1) (C.2.2.2.2.1 _ w2) (C.2.2.2.2.1 _ w3) (C.2.2.2.2.1 _ w4) (by rw [eR]; exact hR.1) (by rw [eR]; exact hR.2.1) (by rw [eR]; exact hR.2.2.1) (by rw [eR]; exact hR.2.2.2) d (k H locs ls hP hD hS hl)
theorem g_abs (C : Cx X cc own nL ret rm) {idx : Nat} {x : Int64} (w1 : Cond.methodLink own idx Lib.MathLoose.abs_long.x ∈ lw_g) (w2 : Cond.static Lib.MathLoose.abs_long.x ∈ lw_g) (w3 : Cond.initialized "java/lang/Math" ∈ lw_g) (w4 : Cond.code Lib.MathLoose.abs_long.x Lib.MathLoose.abs_long.code 2 (some .long) ∈ lw_g) (hR : 1 ≤ rm.frames ∧ (rest.map fun v => v.category).sum + 13 ≤ rm.locals ∧ mc ≤ rm.cells ∧ ms ≤ rm.slots) (d : decode cc pc = .ok (.invokestatic idx, 3)) (k : G T X ad n mc ms I J N Q (pc + 3) nL lv (.long (if 0 < x then x else -x) :: rest)) : G T X ad n mc ms I J N Q pc nL lv (.long x :: rest) := fun H locs ls hP hD hS hl => by
  have eR := C.2.2.2.2.2.2.2.2.2.1
  exact va_mabs_long C.1 C.2.1 (C.2.2.1.trans hl.1.symm) C.2.2.2.1 (C.2.2.2.2.1 _ w1) (C.2.2.2.2.1 _ w2) (C.2.2.2.2.1 _ w3) (C.2.2.2.2.1 _ w4) (by rw [eR]; exact hR.1) (by rw [eR]; exact hR.2.1) (by rw [eR]; exact hR.2.2.1) (by rw [eR]; exact hR.2.2.2) d (k H locs ls hP hD hS hl)
theorem g_copyl (C : Cx X cc own nL ret rm) {idx a b : Nat} {sp dp len : Int32} (w1 : Cond.methodLink own idx arraycopyName ∈ lw_g) (w2 : Cond.native arraycopyName ∈ lw_g) (w3 : Cond.static arraycopyName ∈ lw_g) (w4 : Cond.initialized "java/lang/System" ∈ lw_g) (ha : ga T n a 2) (hb : ga T n b 2) (hg : cpb sp dp len (T a).2 (T b).2 = true) (hR : 1 ≤ rm.frames ∧ (rest.map fun v => v.category).sum + (nativeFrameWords "java/lang/System" "arraycopy" 5 + 11) ≤ rm.locals) (d : decode cc pc = .ok (.invokestatic idx, 3)) (k : G T X ad n mc ms I (va_up J b (va_cpy (J a) (J b) sp.toNatClampNeg dp.toNatClampNeg len.toNatClampNeg)) N Q (pc + 3) nL lv rest) : G T X ad n mc ms I J N Q pc nL lv (.int len :: .int dp :: .ref (ad b) :: .int sp :: .ref (ad a) :: rest) := fun H locs ls hP hD hS hl => by
  have eR := C.2.2.2.2.2.2.2.2.2.1
  unfold cpb at hg
  simp only [Bool.and_eq_true, Bool.not_eq_true', decide_eq_false_iff_not, decide_eq_true_eq] at hg
  obtain ⟨⟨⟨⟨h1, h2⟩, h3⟩, h4⟩, h5⟩ := hg
  exact va_copyl C.1 C.2.1 (C.2.2.1.trans hl.1.symm) C.2.2.2.1 (C.2.2.2.2.1 _ w1) (C.2.2.2.2.1 _ w2) (C.2.2.2.2.1 _ w3) (C.2.2.2.2.1 _ w4) C.2.2.2.2.2.2.2.1 hP (gin_D hD T _ I J N) hS a b 1 1 (by rw [gwd_at ha.1, gce_l ha]) (by rw [gwd_at hb.1, gce_l hb]) rfl rfl rfl h1 h2 h3 h4 h5 (fun i _ => rfl) (by rw [eR]; exact hR.1) (by rw [eR]; exact hR.2) d (fun H1 locs1 hP1 _ hS1 => k H1 locs1 ls (by rw [gwd_set (I' := I) (J' := va_up J b (va_cpy (J a) (J b) sp.toNatClampNeg dp.toNatClampNeg len.toNatClampNeg)) (N' := N) (by rw [gce_l hb, va_up_at]) (fun _ _ => rfl) (fun b hb => va_up_of hb) (fun _ _ => rfl)] at hP1; exact hP1) hD hS1 hl)
end GR
theorem sw_out (x : Int32) (m : Nat) (hm : m < 2 ^ 31) (h : ∀ k, k < m → ¬ x = Int32.ofNat k) : x.toInt < 0 ∨ (m : Int) - 1 < x.toInt := by
  by_cases h0 : x < 0
  · left
    have := Int32.lt_iff_toInt_lt.mp h0
    simpa using this
  · obtain ⟨j, hj, rfl⟩ := nI_of h0
    right
    rw [nI_toInt hj]
    by_cases hjm : j < m
    · exact absurd rfl (h j hjm)
    · omega
theorem zn_0 : narrow .boolean (.int 0) = .int 0 := rfl
theorem zn_1 : narrow .boolean (.int 1) = .int 1 := rfl
def isB (x : Int32) : Bool := decide (x = 0) || decide (x = 1)
theorem zn_B {x : Int32} (h : isB x = true) : narrow .boolean (.int x) = .int x := by
  unfold isB at h
  simp only [Bool.or_eq_true, decide_eq_true_eq] at h
  rcases h with rfl | rfl <;> rfl
theorem gs_0_0 {ad : Nat → Nat} {I : HI} {J : HJ} {N : HN} {a : Nat} {v : Nat} : gob ad I J (up2 N a 0 (some v)) 0 a = (gob ad I J N 0 a).set 0 (.ref (ad v)) := by simp [gob, up2, va_up, va_rf]
theorem gs_0_1 {ad : Nat → Nat} {I : HI} {J : HJ} {N : HN} {a : Nat} {v : Int32} : gob ad (up2 I a 1 v) J N 0 a = (gob ad I J N 0 a).set 1 (.int v) := by simp [gob, up2, va_up, va_rf]
theorem gs_1_0 {ad : Nat → Nat} {I : HI} {J : HJ} {N : HN} {a : Nat} {v : Nat} : gob ad I J (up2 N a 0 (some v)) 1 a = (gob ad I J N 1 a).set 0 (.ref (ad v)) := by simp [gob, up2, va_up, va_rf]
theorem gs_1_1 {ad : Nat → Nat} {I : HI} {J : HJ} {N : HN} {a : Nat} {v : Nat} : gob ad I J (up2 N a 1 (some v)) 1 a = (gob ad I J N 1 a).set 1 (.ref (ad v)) := by simp [gob, up2, va_up, va_rf]
theorem gs_1_2 {ad : Nat → Nat} {I : HI} {J : HJ} {N : HN} {a : Nat} {v : Nat} : gob ad I J (up2 N a 2 (some v)) 1 a = (gob ad I J N 1 a).set 2 (.ref (ad v)) := by simp [gob, up2, va_up, va_rf]
theorem gs_2_0 {ad : Nat → Nat} {I : HI} {J : HJ} {N : HN} {a : Nat} {v : Int64} : gob ad I (up2 J a 0 v) N 2 a = (gob ad I J N 2 a).set 0 (.long v) := by simp [gob, up2, va_up, va_rf]
theorem gs_2_1 {ad : Nat → Nat} {I : HI} {J : HJ} {N : HN} {a : Nat} {v : Int64} : gob ad I (up2 J a 1 v) N 2 a = (gob ad I J N 2 a).set 1 (.long v) := by simp [gob, up2, va_up, va_rf]
theorem gs_3_0 {ad : Nat → Nat} {I : HI} {J : HJ} {N : HN} {a : Nat} {v : Nat} : gob ad I J (up2 N a 0 (some v)) 3 a = (gob ad I J N 3 a).set 0 (.ref (ad v)) := by simp [gob, up2, va_up, va_rf]
theorem gs_3_1 {ad : Nat → Nat} {I : HI} {J : HJ} {N : HN} {a : Nat} {v : Int32} : gob ad (up2 I a 1 v) J N 3 a = (gob ad I J N 3 a).set 1 (.int v) := by simp [gob, up2, va_up, va_rf]
theorem gs_4_0 {ad : Nat → Nat} {I : HI} {J : HJ} {N : HN} {a : Nat} {v : Nat} : gob ad I J (up2 N a 0 (some v)) 4 a = (gob ad I J N 4 a).set 0 (.ref (ad v)) := by simp [gob, up2, va_up, va_rf]
theorem gs_4_1 {ad : Nat → Nat} {I : HI} {J : HJ} {N : HN} {a : Nat} {v : Nat} : gob ad I J (up2 N a 1 (some v)) 4 a = (gob ad I J N 4 a).set 1 (.ref (ad v)) := by simp [gob, up2, va_up, va_rf]
theorem gs_4_2 {ad : Nat → Nat} {I : HI} {J : HJ} {N : HN} {a : Nat} {v : Int32} : gob ad (up2 I a 2 v) J N 4 a = (gob ad I J N 4 a).set 2 (.int v) := by simp [gob, up2, va_up, va_rf]
theorem gs_5_0 {ad : Nat → Nat} {I : HI} {J : HJ} {N : HN} {a : Nat} {v : Nat} : gob ad I J (up2 N a 0 (some v)) 5 a = (gob ad I J N 5 a).set 0 (.ref (ad v)) := by simp [gob, up2, va_up, va_rf]
theorem gs_5_1 {ad : Nat → Nat} {I : HI} {J : HJ} {N : HN} {a : Nat} {v : Nat} : gob ad I J (up2 N a 1 (some v)) 5 a = (gob ad I J N 5 a).set 1 (.ref (ad v)) := by simp [gob, up2, va_up, va_rf]
theorem gs_6_0 {ad : Nat → Nat} {I : HI} {J : HJ} {N : HN} {a : Nat} {v : Nat} : gob ad I J (up2 N a 0 (some v)) 6 a = (gob ad I J N 6 a).set 0 (.ref (ad v)) := by simp [gob, up2, va_up, va_rf]
theorem gs_7_0 {ad : Nat → Nat} {I : HI} {J : HJ} {N : HN} {a : Nat} {v : Nat} : gob ad I J (up2 N a 0 (some v)) 7 a = (gob ad I J N 7 a).set 0 (.ref (ad v)) := by simp [gob, up2, va_up, va_rf]
theorem gs_7_1 {ad : Nat → Nat} {I : HI} {J : HJ} {N : HN} {a : Nat} {v : Nat} : gob ad I J (up2 N a 1 (some v)) 7 a = (gob ad I J N 7 a).set 1 (.ref (ad v)) := by simp [gob, up2, va_up, va_rf]
theorem gs_8_0 {ad : Nat → Nat} {I : HI} {J : HJ} {N : HN} {a : Nat} {v : Nat} : gob ad I J (up2 N a 0 (some v)) 8 a = (gob ad I J N 8 a).set 0 (.ref (ad v)) := by simp [gob, up2, va_up, va_rf]
theorem gs_8_1 {ad : Nat → Nat} {I : HI} {J : HJ} {N : HN} {a : Nat} {v : Nat} : gob ad I J (up2 N a 1 (some v)) 8 a = (gob ad I J N 8 a).set 1 (.ref (ad v)) := by simp [gob, up2, va_up, va_rf]
theorem gs_9_0 {ad : Nat → Nat} {I : HI} {J : HJ} {N : HN} {a : Nat} {v : Nat} : gob ad I J (up2 N a 0 (some v)) 9 a = (gob ad I J N 9 a).set 0 (.ref (ad v)) := by simp [gob, up2, va_up, va_rf]
theorem gs_9_1 {ad : Nat → Nat} {I : HI} {J : HJ} {N : HN} {a : Nat} {v : Nat} : gob ad I J (up2 N a 1 (some v)) 9 a = (gob ad I J N 9 a).set 1 (.ref (ad v)) := by simp [gob, up2, va_up, va_rf]
theorem gs_9_2 {ad : Nat → Nat} {I : HI} {J : HJ} {N : HN} {a : Nat} {v : Nat} : gob ad I J (up2 N a 2 (some v)) 9 a = (gob ad I J N 9 a).set 2 (.ref (ad v)) := by simp [gob, up2, va_up, va_rf]
theorem gs_9_3 {ad : Nat → Nat} {I : HI} {J : HJ} {N : HN} {a : Nat} {v : Nat} : gob ad I J (up2 N a 3 (some v)) 9 a = (gob ad I J N 9 a).set 3 (.ref (ad v)) := by simp [gob, up2, va_up, va_rf]
theorem gs_9_4 {ad : Nat → Nat} {I : HI} {J : HJ} {N : HN} {a : Nat} {v : Nat} : gob ad I J (up2 N a 4 (some v)) 9 a = (gob ad I J N 9 a).set 4 (.ref (ad v)) := by simp [gob, up2, va_up, va_rf]
theorem gs_9_5 {ad : Nat → Nat} {I : HI} {J : HJ} {N : HN} {a : Nat} {v : Nat} : gob ad I J (up2 N a 5 (some v)) 9 a = (gob ad I J N 9 a).set 5 (.ref (ad v)) := by simp [gob, up2, va_up, va_rf]
theorem gs_9_6 {ad : Nat → Nat} {I : HI} {J : HJ} {N : HN} {a : Nat} {v : Nat} : gob ad I J (up2 N a 6 (some v)) 9 a = (gob ad I J N 9 a).set 6 (.ref (ad v)) := by simp [gob, up2, va_up, va_rf]
theorem gs_9_7 {ad : Nat → Nat} {I : HI} {J : HJ} {N : HN} {a : Nat} {v : Nat} : gob ad I J (up2 N a 7 (some v)) 9 a = (gob ad I J N 9 a).set 7 (.ref (ad v)) := by simp [gob, up2, va_up, va_rf]
theorem gs_9_8 {ad : Nat → Nat} {I : HI} {J : HJ} {N : HN} {a : Nat} {v : Nat} : gob ad I J (up2 N a 8 (some v)) 9 a = (gob ad I J N 9 a).set 8 (.ref (ad v)) := by simp [gob, up2, va_up, va_rf]
theorem gs_9_9 {ad : Nat → Nat} {I : HI} {J : HJ} {N : HN} {a : Nat} {v : Int32} : gob ad (up2 I a 9 v) J N 9 a = (gob ad I J N 9 a).set 9 (.int v) := by simp [gob, up2, va_up, va_rf]
theorem gs_10_0 {ad : Nat → Nat} {I : HI} {J : HJ} {N : HN} {a : Nat} {v : Nat} : gob ad I J (up2 N a 0 (some v)) 10 a = (gob ad I J N 10 a).set 0 (.ref (ad v)) := by simp [gob, up2, va_up, va_rf]
theorem gs_10_1 {ad : Nat → Nat} {I : HI} {J : HJ} {N : HN} {a : Nat} {v : Nat} : gob ad I J (up2 N a 1 (some v)) 10 a = (gob ad I J N 10 a).set 1 (.ref (ad v)) := by simp [gob, up2, va_up, va_rf]
theorem gs_10_2 {ad : Nat → Nat} {I : HI} {J : HJ} {N : HN} {a : Nat} {v : Nat} : gob ad I J (up2 N a 2 (some v)) 10 a = (gob ad I J N 10 a).set 2 (.ref (ad v)) := by simp [gob, up2, va_up, va_rf]
theorem gs_10_3 {ad : Nat → Nat} {I : HI} {J : HJ} {N : HN} {a : Nat} {v : Nat} : gob ad I J (up2 N a 3 (some v)) 10 a = (gob ad I J N 10 a).set 3 (.ref (ad v)) := by simp [gob, up2, va_up, va_rf]
theorem gs_10_4 {ad : Nat → Nat} {I : HI} {J : HJ} {N : HN} {a : Nat} {v : Nat} : gob ad I J (up2 N a 4 (some v)) 10 a = (gob ad I J N 10 a).set 4 (.ref (ad v)) := by simp [gob, up2, va_up, va_rf]
theorem gs_10_5 {ad : Nat → Nat} {I : HI} {J : HJ} {N : HN} {a : Nat} {v : Nat} : gob ad I J (up2 N a 5 (some v)) 10 a = (gob ad I J N 10 a).set 5 (.ref (ad v)) := by simp [gob, up2, va_up, va_rf]
theorem gs_10_6 {ad : Nat → Nat} {I : HI} {J : HJ} {N : HN} {a : Nat} {v : Nat} : gob ad I J (up2 N a 6 (some v)) 10 a = (gob ad I J N 10 a).set 6 (.ref (ad v)) := by simp [gob, up2, va_up, va_rf]
theorem gs_10_7 {ad : Nat → Nat} {I : HI} {J : HJ} {N : HN} {a : Nat} {v : Nat} : gob ad I J (up2 N a 7 (some v)) 10 a = (gob ad I J N 10 a).set 7 (.ref (ad v)) := by simp [gob, up2, va_up, va_rf]
theorem gs_10_8 {ad : Nat → Nat} {I : HI} {J : HJ} {N : HN} {a : Nat} {v : Int32} : gob ad (up2 I a 8 v) J N 10 a = (gob ad I J N 10 a).set 8 (.int v) := by simp [gob, up2, va_up, va_rf]
theorem gs_11_0 {ad : Nat → Nat} {I : HI} {J : HJ} {N : HN} {a : Nat} {v : Int32} : gob ad (up2 I a 0 v) J N 11 a = (gob ad I J N 11 a).set 0 (.int v) := by simp [gob, up2, va_up, va_rf]
theorem gs_11_1 {ad : Nat → Nat} {I : HI} {J : HJ} {N : HN} {a : Nat} {v : Nat} : gob ad I J (up2 N a 1 (some v)) 11 a = (gob ad I J N 11 a).set 1 (.ref (ad v)) := by simp [gob, up2, va_up, va_rf]
theorem gs_11_2 {ad : Nat → Nat} {I : HI} {J : HJ} {N : HN} {a : Nat} {v : Nat} : gob ad I J (up2 N a 2 (some v)) 11 a = (gob ad I J N 11 a).set 2 (.ref (ad v)) := by simp [gob, up2, va_up, va_rf]
theorem gs_11_3 {ad : Nat → Nat} {I : HI} {J : HJ} {N : HN} {a : Nat} {v : Nat} : gob ad I J (up2 N a 3 (some v)) 11 a = (gob ad I J N 11 a).set 3 (.ref (ad v)) := by simp [gob, up2, va_up, va_rf]
theorem gs_11_4 {ad : Nat → Nat} {I : HI} {J : HJ} {N : HN} {a : Nat} {v : Nat} : gob ad I J (up2 N a 4 (some v)) 11 a = (gob ad I J N 11 a).set 4 (.ref (ad v)) := by simp [gob, up2, va_up, va_rf]
theorem gs_11_5 {ad : Nat → Nat} {I : HI} {J : HJ} {N : HN} {a : Nat} {v : Nat} : gob ad I J (up2 N a 5 (some v)) 11 a = (gob ad I J N 11 a).set 5 (.ref (ad v)) := by simp [gob, up2, va_up, va_rf]
theorem gs_11_6 {ad : Nat → Nat} {I : HI} {J : HJ} {N : HN} {a : Nat} {v : Int32} : gob ad (up2 I a 6 v) J N 11 a = (gob ad I J N 11 a).set 6 (.int v) := by simp [gob, up2, va_up, va_rf]
theorem gs_11_7 {ad : Nat → Nat} {I : HI} {J : HJ} {N : HN} {a : Nat} {v : Nat} : gob ad I J (up2 N a 7 (some v)) 11 a = (gob ad I J N 11 a).set 7 (.ref (ad v)) := by simp [gob, up2, va_up, va_rf]
theorem gs_11_8 {ad : Nat → Nat} {I : HI} {J : HJ} {N : HN} {a : Nat} {v : Int32} : gob ad (up2 I a 8 v) J N 11 a = (gob ad I J N 11 a).set 8 (.int v) := by simp [gob, up2, va_up, va_rf]
theorem gs_11_9 {ad : Nat → Nat} {I : HI} {J : HJ} {N : HN} {a : Nat} {v : Int64} : gob ad I (up2 J a 9 v) N 11 a = (gob ad I J N 11 a).set 9 (.long v) := by simp [gob, up2, va_up, va_rf]
theorem gs_11_10 {ad : Nat → Nat} {I : HI} {J : HJ} {N : HN} {a : Nat} {v : Int64} : gob ad I (up2 J a 10 v) N 11 a = (gob ad I J N 11 a).set 10 (.long v) := by simp [gob, up2, va_up, va_rf]
theorem gs_11_11 {ad : Nat → Nat} {I : HI} {J : HJ} {N : HN} {a : Nat} {v : Nat} : gob ad I J (up2 N a 11 (some v)) 11 a = (gob ad I J N 11 a).set 11 (.ref (ad v)) := by simp [gob, up2, va_up, va_rf]
theorem gs_11_12 {ad : Nat → Nat} {I : HI} {J : HJ} {N : HN} {a : Nat} {v : Nat} : gob ad I J (up2 N a 12 (some v)) 11 a = (gob ad I J N 11 a).set 12 (.ref (ad v)) := by simp [gob, up2, va_up, va_rf]
theorem gs_11_13 {ad : Nat → Nat} {I : HI} {J : HJ} {N : HN} {a : Nat} {v : Int64} : gob ad I (up2 J a 13 v) N 11 a = (gob ad I J N 11 a).set 13 (.long v) := by simp [gob, up2, va_up, va_rf]
theorem gs_11_14 {ad : Nat → Nat} {I : HI} {J : HJ} {N : HN} {a : Nat} {v : Int64} : gob ad I (up2 J a 14 v) N 11 a = (gob ad I J N 11 a).set 14 (.long v) := by simp [gob, up2, va_up, va_rf]
theorem gs_11_15 {ad : Nat → Nat} {I : HI} {J : HJ} {N : HN} {a : Nat} {v : Nat} : gob ad I J (up2 N a 15 (some v)) 11 a = (gob ad I J N 11 a).set 15 (.ref (ad v)) := by simp [gob, up2, va_up, va_rf]
theorem gs_11_16 {ad : Nat → Nat} {I : HI} {J : HJ} {N : HN} {a : Nat} {v : Nat} : gob ad I J (up2 N a 16 (some v)) 11 a = (gob ad I J N 11 a).set 16 (.ref (ad v)) := by simp [gob, up2, va_up, va_rf]
theorem gs_11_17 {ad : Nat → Nat} {I : HI} {J : HJ} {N : HN} {a : Nat} {v : Nat} : gob ad I J (up2 N a 17 (some v)) 11 a = (gob ad I J N 11 a).set 17 (.ref (ad v)) := by simp [gob, up2, va_up, va_rf]
theorem gs_11_18 {ad : Nat → Nat} {I : HI} {J : HJ} {N : HN} {a : Nat} {v : Nat} : gob ad I J (up2 N a 18 (some v)) 11 a = (gob ad I J N 11 a).set 18 (.ref (ad v)) := by simp [gob, up2, va_up, va_rf]
theorem gs_11_19 {ad : Nat → Nat} {I : HI} {J : HJ} {N : HN} {a : Nat} {v : Nat} : gob ad I J (up2 N a 19 (some v)) 11 a = (gob ad I J N 11 a).set 19 (.ref (ad v)) := by simp [gob, up2, va_up, va_rf]
theorem gs_11_20 {ad : Nat → Nat} {I : HI} {J : HJ} {N : HN} {a : Nat} {v : Nat} : gob ad I J (up2 N a 20 (some v)) 11 a = (gob ad I J N 11 a).set 20 (.ref (ad v)) := by simp [gob, up2, va_up, va_rf]
theorem gs_11_21 {ad : Nat → Nat} {I : HI} {J : HJ} {N : HN} {a : Nat} {v : Int32} : gob ad (up2 I a 21 v) J N 11 a = (gob ad I J N 11 a).set 21 (.int v) := by simp [gob, up2, va_up, va_rf]
theorem gs_11_22 {ad : Nat → Nat} {I : HI} {J : HJ} {N : HN} {a : Nat} {v : Nat} : gob ad I J (up2 N a 22 (some v)) 11 a = (gob ad I J N 11 a).set 22 (.ref (ad v)) := by simp [gob, up2, va_up, va_rf]
theorem gs_11_23 {ad : Nat → Nat} {I : HI} {J : HJ} {N : HN} {a : Nat} {v : Nat} : gob ad I J (up2 N a 23 (some v)) 11 a = (gob ad I J N 11 a).set 23 (.ref (ad v)) := by simp [gob, up2, va_up, va_rf]
theorem gs_11_24 {ad : Nat → Nat} {I : HI} {J : HJ} {N : HN} {a : Nat} {v : Nat} : gob ad I J (up2 N a 24 (some v)) 11 a = (gob ad I J N 11 a).set 24 (.ref (ad v)) := by simp [gob, up2, va_up, va_rf]
theorem gs_11_25 {ad : Nat → Nat} {I : HI} {J : HJ} {N : HN} {a : Nat} {v : Nat} : gob ad I J (up2 N a 25 (some v)) 11 a = (gob ad I J N 11 a).set 25 (.ref (ad v)) := by simp [gob, up2, va_up, va_rf]
theorem gs_11_26 {ad : Nat → Nat} {I : HI} {J : HJ} {N : HN} {a : Nat} {v : Nat} : gob ad I J (up2 N a 26 (some v)) 11 a = (gob ad I J N 11 a).set 26 (.ref (ad v)) := by simp [gob, up2, va_up, va_rf]
theorem gs_11_27 {ad : Nat → Nat} {I : HI} {J : HJ} {N : HN} {a : Nat} {v : Nat} : gob ad I J (up2 N a 27 (some v)) 11 a = (gob ad I J N 11 a).set 27 (.ref (ad v)) := by simp [gob, up2, va_up, va_rf]
theorem gs_11_28 {ad : Nat → Nat} {I : HI} {J : HJ} {N : HN} {a : Nat} {v : Nat} : gob ad I J (up2 N a 28 (some v)) 11 a = (gob ad I J N 11 a).set 28 (.ref (ad v)) := by simp [gob, up2, va_up, va_rf]
theorem gs_11_29 {ad : Nat → Nat} {I : HI} {J : HJ} {N : HN} {a : Nat} {v : Nat} : gob ad I J (up2 N a 29 (some v)) 11 a = (gob ad I J N 11 a).set 29 (.ref (ad v)) := by simp [gob, up2, va_up, va_rf]
theorem gs_11_30 {ad : Nat → Nat} {I : HI} {J : HJ} {N : HN} {a : Nat} {v : Nat} : gob ad I J (up2 N a 30 (some v)) 11 a = (gob ad I J N 11 a).set 30 (.ref (ad v)) := by simp [gob, up2, va_up, va_rf]
theorem gs_11_31 {ad : Nat → Nat} {I : HI} {J : HJ} {N : HN} {a : Nat} {v : Int32} : gob ad (up2 I a 31 v) J N 11 a = (gob ad I J N 11 a).set 31 (.int v) := by simp [gob, up2, va_up, va_rf]
theorem gs_11_32 {ad : Nat → Nat} {I : HI} {J : HJ} {N : HN} {a : Nat} {v : Nat} : gob ad I J (up2 N a 32 (some v)) 11 a = (gob ad I J N 11 a).set 32 (.ref (ad v)) := by simp [gob, up2, va_up, va_rf]
