/-! the words that every method has: the good ones of the tables, and the links to nest mates -/
def lw_gd : List Cond := lw_tbl.filter goodWord
def nwd : Cond → Bool
  | .fieldLinkNest .. => true
  | .methodLinkNest .. => true
  | .castable .. => true
  | .declares .. => true
  | _ => false
def lw_nw : List Cond := lw_tbl.filter nwd
theorem gd_of {i : Nat} {w : Cond} (h : lw_tbl[i]? = some w) (g : goodWord w = true) : w ∈ lw_gd := List.mem_filter.mpr ⟨List.mem_of_getElem? h, g⟩
theorem nw_of {i : Nat} {w : Cond} (h : lw_tbl[i]? = some w) (g : nwd w = true) : w ∈ lw_nw := List.mem_filter.mpr ⟨List.mem_of_getElem? h, g⟩
theorem gd_good : GoodIn lw_gd lw_gd := fun w hw => ⟨hw, good_of_word (List.mem_filter.mp hw).2⟩
/-! handles, values, cells of the abstract heap -/
abbrev Hd : Type := Nat × Nat
abbrev AV : Type := Int32 ⊕ (Int64 ⊕ Option Hd)
abbrev vI (x : Int32) : AV := .inl x
abbrev vL (x : Int64) : AV := .inr (.inl x)
abbrev vR (r : Option Hd) : AV := .inr (.inr r)
abbrev AA : Type := (Nat → Int32) ⊕ ((Nat → Int64) ⊕ (Nat → Option Hd))
abbrev AE : Type := (Nat × Nat × AA) ⊕ (Nat × List AV)
abbrev Hp : Type := Hd → Option AE
def cv (ad : Hd → Nat) (v : AV) : Value := match v with
  | .inl x => .int x
  | .inr (.inl x) => .long x
  | .inr (.inr none) => .null
  | .inr (.inr (some q)) => .ref (ad q)
def ca (ad : Hd → Nat) (a : AA) : (Nat → Int32) ⊕ (Nat → Int64) ⊕ (Nat → UInt32) ⊕ (Nat → UInt64) ⊕ (Nat → Option Nat) := match a with
  | .inl f => .inl f
  | .inr (.inl f) => .inr (.inl f)
  | .inr (.inr f) => .inr (.inr (.inr (.inr (fun j => (f j).map ad))))
def ce (dA : Nat → ClassId) (ad : Hd → Nat) (e : AE) : va_E := match e with
  | .inl (k, n, a) => .inl (dA k, n, ca ad a)
  | .inr (c, fs) => .inr (c, fs.map (cv ad))
def okV (h : Hp) (v : AV) : Prop := match v with
  | .inr (.inr (some q)) => h q ≠ none
  | _ => True
def okE (h : Hp) (e : AE) : Prop := match e with
  | .inl (_, _, .inr (.inr f)) => ∀ j q, f j = some q → h q ≠ none
  | .inl _ => True
  | .inr (_, fs) => ∀ v ∈ fs, okV h v
def tyA : Nat → FieldType
  | 0 => .int
  | 1 => .long
  | 2 => .boolean
  | 3 => .object "GuestHouse$Room"
  | 4 => .object "GuestHouse$Promise"
  | 5 => .object "GuestHouse$Rule"
  | _ => .array .int
def AOA (U : State) : Prop := (Cond.arrayOver (.array .int)).before #[] U = true
theorem AOA.moved {u U : State} (hvm : u.vm.Alike U.vm) (h : AOA u) : AOA U := by
  unfold AOA Cond.before Cond.holds at h ⊢
  simp only [Cond.value] at h ⊢
  cases h1 : u.vm.findClass (FieldType.array .int).toString with
  | none => rw [h1] at h; cases h
  | some comp =>
    rw [h1, Option.bind_some] at h
    rw [show U.vm.findClass (FieldType.array .int).toString = some comp by rw [hvm.findClass]; exact h1, Option.bind_some]
    have hi : (U.vm.classes.findIdx? fun (x : Class) => match x.kind with | .array component _ => component == comp | _ => false) = (u.vm.classes.findIdx? fun (x : Class) => match x.kind with | .array component _ => component == comp | _ => false) := by
      have hb : U.vm.bare = u.vm.bare := by first | exact hvm.bare_eq | exact hvm.bare_eq.symm
      exact ((va_idx_bare U.vm comp).symm.trans (congrArg (fun v : Vm => v.classes.findIdx? fun (x : Class) => match x.kind with | .array component _ => component == comp | _ => false) hb)).trans (va_idx_bare u.vm comp)
    cases h2 : (u.vm.classes.findIdx? fun (x : Class) => match x.kind with | .array component _ => component == comp | _ => false) with
    | none =>
      exfalso
      revert h
      refine (congrArg (fun o : Option Nat => ¬ (o.bind (fun c => (u.vm.classes[c]?).map fun (k : Class) => match k.kind with | .array _ ty => decide (ty = FieldType.array .int) && decide (u.vm.findClass ("[" ++ (FieldType.array .int).toString) = some c) | _ => false) == some true) = true) h2).mpr ?_
      simp
    | some c =>
      have h3 : (((u.vm.classes[c]?).map fun (k : Class) => match k.kind with | .array _ ty => decide (ty = FieldType.array .int) && decide (u.vm.findClass ("[" ++ (FieldType.array .int).toString) = some c) | _ => false) == some true) = true :=
        (congrArg (fun o : Option Nat => (o.bind (fun c => (u.vm.classes[c]?).map fun (k : Class) => match k.kind with | .array _ ty => decide (ty = FieldType.array .int) && decide (u.vm.findClass ("[" ++ (FieldType.array .int).toString) = some c) | _ => false) == some true) = true) h2).mp h
      refine (congrArg (fun o : Option Nat => (o.bind (fun c => (U.vm.classes[c]?).map fun (k : Class) => match k.kind with | .array _ ty => decide (ty = FieldType.array .int) && decide (U.vm.findClass ("[" ++ (FieldType.array .int).toString) = some c) | _ => false) == some true)) (hi.trans h2)).trans ?_
      cases h4 : u.vm.classes[c]? with
      | none => rw [h4] at h3; cases h3
      | some k =>
        obtain ⟨k', hk', he⟩ := hvm.2.2 _ _ h4
        rw [h4] at h3
        show (((U.vm.classes[c]?).map fun (k : Class) => match k.kind with | .array _ ty => decide (ty = FieldType.array .int) && decide (U.vm.findClass ("[" ++ (FieldType.array .int).toString) = some c) | _ => false) == some true) = true
        rw [hk', hvm.findClass]
        have hkd : k'.kind = k.kind := by rw [he]
        simp only [Option.map_some, hkd] at h3 ⊢
        exact h3
/-- the tables: the classes, the array classes, the links of nest mates -/
def KK (D : va_G) (dA : Nat → ClassId) (U : State) : Prop := (va_K D vwCl [] U ∧ ∀ k, k < 7 → ArrOfT U (dA k) (tyA k) ∧ va_RA U (dA k) (tyA k)) ∧ (∀ w ∈ lw_nw, va_Nw w U) ∧ (va_AO "GuestHouse$Room" U ∧ va_AO "GuestHouse$Promise" U ∧ va_AO "GuestHouse$Rule" U) ∧ AOA U
theorem KK.warm {D : va_G} {dA : Nat → ClassId} {s U : State} (hW : s.WarmedH U.vm) (h : KK D dA s) : KK D dA U := by
  refine ⟨⟨va_K.moved hW.alike h.1.1, fun k hk => ⟨arrOfT_moved hW.alike (h.1.2 k hk).1, va_RA.moved hW.alike (h.1.2 k hk).2⟩⟩, fun w hw => ?_, ⟨va_AO.moved hW.alike h.2.2.1.1, va_AO.moved hW.alike h.2.2.1.2.1, va_AO.moved hW.alike h.2.2.1.2.2⟩, AOA.moved hW.alike h.2.2.2⟩
  have h1 := h.2.1 w hw
  have h2 := (List.mem_filter.mp hw).2
  cases w with
  | fieldLinkNest => exact va_Nw.warmF hW h1
  | methodLinkNest => exact va_Nw.warmM hW h1
  | castable => exact va_Nw.warmC hW h1
  | declares => exact va_Nw.warmD hW h1
  | _ => cases h2
/-- the heap H holds the abstract heap h at the addresses ad; all that lay below H0.size is as it was -/
def Rp (D : va_G) (dA : Nat → ClassId) (H0 : Heap) (ad : Hd → Nat) (h : Hp) (H : Heap) : Prop :=
  (∀ q e, h q = some e → va_at D vwCl (ad q, ce dA ad e) H ∧ H0.size ≤ ad q) ∧
  (∀ q r, h q ≠ none → h r ≠ none → ad q = ad r → q = r) ∧
  (∀ q e, h q = some e → okE h e) ∧ H0.size ≤ H.size ∧ ∀ a, a < H0.size → H[a]? = H0[a]?
/-- a later heap with later addresses: what was there is there, at the same place -/
def Gr (h0 : Hp) (ad0 : Hd → Nat) (h : Hp) (ad : Hd → Nat) : Prop := ∀ q, h0 q ≠ none → h q ≠ none ∧ ad q = ad0 q
theorem Gr.rf {h : Hp} {ad : Hd → Nat} : Gr h ad h ad := fun _ h => ⟨h, rfl⟩
theorem Gr.tr {h0 h1 h2 : Hp} {a0 a1 a2 : Hd → Nat} (x : Gr h0 a0 h1 a1) (y : Gr h1 a1 h2 a2) : Gr h0 a0 h2 a2 := fun q h => ⟨(y q (x q h).1).1, ((y q (x q h).1).2).trans (x q h).2⟩
/-- a method: its code, its number of locals, its owner, what it gives, its room, whether it is a constructor, what else it is told of its start, locals that hold what is not of the abstract heap -/
abbrev YY : Type := ByteArray × Nat × String × Option FieldType × Room × Bool × (State → Code → Prop) × List (Nat × Value)
/-- a heap at a method's start, and what is owed where it throws -/
abbrev Hx : Type := Hp × (String → Hp → Prop)
abbrev nx (h : Hp) : Hx := (h, fun _ _ => False)
def MC (D : va_G) (dA : Nat → ClassId) (y : YY) (p : Program) (s : State) (m : MethodId) (args : Array Value) (meth : Method) (c : Code) : Prop :=
  p.tables.exec = Jvm.exec ∧ c.code = y.1 ∧ c.maxLocals = y.2.1 ∧ s.vm.findClass y.2.2.1 = some m.cls ∧ (∀ w ∈ lw_gd, w.before args s = true) ∧ meth.sig.returnType = y.2.2.2.1 ∧ meth.locks = false ∧ KK D dA s ∧ (y.2.2.2.2.2.1 = true → meth.name = "<init>") ∧ y.2.2.2.2.2.2.1 s c
def okL (h : Hp) (lo : List (Option AV)) : Prop := ∀ v, some v ∈ lo → okV h v
def okS (h : Hp) (st : List AV) : Prop := ∀ v ∈ st, okV h v
def pr (ad : Hd → Nat) : Nat → List (Option AV) → List (Nat × Value)
  | _, [] => []
  | i, none :: l => pr ad (i + 1) l
  | i, some v :: l => (i, cv ad v) :: pr ad (i + 1) l
/-- what a method owes at its end -/
def QQ (D : va_G) (dA : Nat → ClassId) (H0 : Heap) (h0 : Hp) (ad0 : Hd → Nat) (Po : Option AV → Hp → Prop) : Array Value → State → Outcome → State → Prop := fun _ _ o t =>
  ∃ (ad : Hd → Nat) (r : Option AV) (h : Hp), o = .returned (r.map (cv ad)) ∧ Po r h ∧ Rp D dA H0 ad h t.heap ∧ Gr h0 ad0 h ad ∧ ∀ v, r = some v → okV h v
def XX (D : va_G) (dA : Nat → ClassId) (H0 : Heap) (h0 : Hp) (ad0 : Hd → Nat) (PX : String → Hp → Prop) : String → State → State → Prop := fun E _ t =>
  ∃ (ad : Hd → Nat) (h : Hp), PX E h ∧ Rp D dA H0 ad h t.heap ∧ Gr h0 ad0 h ad
/-- the machine at pc in the method y, with these locals and this stack over the abstract heap h, comes to the method's end with Po -/
def J (l : Launch) (D : va_G) (dA : Nat → ClassId) (H0 : Heap) (y : YY) (h0 : Hx) (Po : Option AV → Hp → Prop) (k n : Nat) (h : Hp) (pc : Nat) (lo : List (Option AV)) (st : List AV) : Prop :=
  ∀ (p : Program) (e : Env) (s : State) (m : MethodId) (args : Array Value) (below : List Frame) (meth : Method) (c : Code), MC D dA y p s m args meth c →
  ∀ (ad0 ad : Hd → Nat) (H : Heap) (locs : List Loc) (ls : Array Slot), Rp D dA H0 ad h H → Gr h0.1 ad0 h ad → (∀ x ∈ locs, H0.size ≤ x.base) → okL h lo → okS h st → lv_has ls y.2.1 (y.2.2.2.2.2.2.2 ++ pr ad 0 lo) →
  W p l e y.2.2.2.2.1 s m args below meth c H locs k n (vx_MQ below (QQ D dA H0 h0.1 ad0 Po) (XX D dA H0 h0.1 ad0 h0.2) args s y.2.2.2.2.1.cells y.2.2.2.2.1.slots (fun a => H0.size ≤ a)) (F0 m pc ls (st.map (cv ad)))
/-- the contract of the method yn at these arguments and this heap -/
def M (l : Launch) (D : va_G) (dA : Nat → ClassId) (H0 : Heap) (yn : MethodName) (y : YY) (as : List AV) (h : Hp) (Po : Option AV → Hp → Prop) : Prop :=
  ∀ ad0 : Hd → Nat, Met l yn (Cond.code yn y.1 y.2.1 y.2.2.2.1 :: lw_gd) y.2.2.2.2.1 (fun a U => a = (as.map (cv ad0)).toArray ∧ Rp D dA H0 ad0 h U.heap ∧ okS h as ∧ KK D dA U) (QQ D dA H0 h ad0 Po) y.2.2.2.2.1.cells y.2.2.2.2.1.slots (fun a => H0.size ≤ a)
