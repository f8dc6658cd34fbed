def wd (v : AV) : Nat := match v with
  | .inr (.inl _) => 2
  | _ => 1
theorem wd_cat {ad : Hd → Nat} (v : AV) : (cv ad v).category = wd v := by
  rcases v with x | x | _ | q <;> rfl
theorem wd_sum {ad : Hd → Nat} (st : List AV) : ((st.map (cv ad)).map fun v => v.category).sum = (st.map wd).sum := by
  rw [List.map_map]
  exact congrArg List.sum (List.map_congr_left (fun v _ => wd_cat v))
theorem KK.same {D : va_G} {dA : Nat → ClassId} {u U : State} (e : u.vm = U.vm) (h : KK D dA u) : KK D dA U := by
  have hA : u.vm.Alike U.vm := by rw [e]; exact Vm.Alike.refl _
  refine ⟨⟨va_K.moved hA h.1.1, fun k hk => ⟨arrOfT_moved hA (h.1.2 k hk).1, va_RA.moved hA (h.1.2 k hk).2⟩⟩, fun w hw => ?_, ⟨va_AO.moved hA h.2.2.1.1, va_AO.moved hA h.2.2.1.2.1, va_AO.moved hA h.2.2.1.2.2⟩, AOA.moved hA h.2.2.2⟩
  have h1 := h.2.1 w hw
  have h2 := (List.mem_filter.mp hw).2
  cases w with
  | fieldLinkNest => exact va_Nw.same rfl e h1
  | methodLinkNest => exact va_Nw.same rfl e h1
  | castable => exact va_Nw.same rfl e h1
  | declares => exact va_Nw.same rfl e h1
  | _ => cases h2
theorem gr_cv {h h' : Hp} {ad ad' : Hd → Nat} (g : Gr h ad h' ad') {v : AV} (x : okV h v) : cv ad' v = cv ad v := by
  rcases v with z | z | _ | r
  · rfl
  · rfl
  · rfl
  · show Value.ref _ = Value.ref _
    rw [(g r x).2]
theorem gr_map {h h' : Hp} {ad ad' : Hd → Nat} (g : Gr h ad h' ad') {st : List AV} (x : okS h st) : st.map (cv ad') = st.map (cv ad) := List.map_congr_left (fun v hv => gr_cv g (x v hv))
theorem gr_pr {h h' : Hp} {ad ad' : Hd → Nat} (g : Gr h ad h' ad') : ∀ {lo : List (Option AV)} (i : Nat), okL h lo → pr ad' i lo = pr ad i lo
  | [], i, x => rfl
  | none :: t, i, x => gr_pr g (i + 1) (fun v hv => x v (List.mem_cons_of_mem _ hv))
  | some v :: t, i, x => by
    show (i, _) :: _ = (i, _) :: _
    rw [gr_cv g (x v List.mem_cons_self), gr_pr g (i + 1) (fun v hv => x v (List.mem_cons_of_mem _ hv))]
/-- what a link to a method needs of the tables: of an instance's, a static one, a constructor -/
def CB (own : String) (ix : Nat) (yn : MethodName) (Y : YY) (np : Nat) : Prop := (Cond.methodLink own ix yn ∈ lw_gd ∨ Cond.methodLinkNest own ix yn "GuestHouse" ∈ lw_nw) ∧ Cond.initialized yn.cls ∈ lw_gd ∧ Cond.code yn Y.1 Y.2.1 Y.2.2.2.1 ∈ lw_gd ∧ (yn.cls ≠ "java/lang/invoke/MethodHandle" ∧ yn.cls ≠ "java/lang/invoke/VarHandle" ∧ (parseMethodDescriptor yn.desc).map (fun d => d.parameters.length) = some np)
def CV (own : String) (ix : Nat) (yn : MethodName) (Y : YY) (np : Nat) : Prop := CB own ix yn Y np ∧ Cond.instanceMethod yn ∈ lw_gd ∧ Cond.selects yn.cls yn yn ∈ lw_gd
def CS (own : String) (ix : Nat) (yn : MethodName) (Y : YY) (np : Nat) : Prop := CB own ix yn Y np ∧ Cond.static yn ∈ lw_gd
def CI (own : String) (ix : Nat) (yn : MethodName) (Y : YY) (np : Nat) : Prop := CB own ix yn Y np ∧ yn.name = "<init>" ∧ Cond.instanceMethod yn ∈ lw_gd ∧ Y.2.2.2.1 = none
/-- the callee's room fits the caller's -/
def RM (y Y : YY) : Prop := Y.2.2.2.2.1.frames + 1 ≤ y.2.2.2.2.1.frames ∧ 8 + (Y.2.1 + 11) + Y.2.2.2.2.1.locals ≤ y.2.2.2.2.1.locals
section CALLS
variable {l : Launch} {D : va_G} {dA : Nat → ClassId} {H0 : Heap} {y : YY} {h0 : Hx} {Po : Option AV → Hp → Prop} {k n : Nat} {h : Hp} {pc pc' : Nat} {lo : List (Option AV)} {st : List AV}
theorem j_ofRun {Pq : Option AV → Hp → Prop} {mc ms : Nat} {s0 : List AV}
    (hrun : ∀ (p : Program) (e : Env) (s : State) (m : MethodId) (args : Array Value) (below : List Frame) (meth : Method) (c : Code), MC D dA y p s m args meth c → ∀ (ad : Hd → Nat) (H : Heap) (locs : List Loc) (ls : Array Slot), Rp D dA H0 ad h H → okS h s0 → ls.size = y.2.1 →
      ∃ a, va_Run p l e y.2.2.2.2.1 s m args below meth c H locs k n mc ms (F0 m pc ls (s0.map (cv ad))) (st.map (cv ad)) (QQ D dA H0 h ad Pq a) (fun a => H0.size ≤ a))
    (hst : okS h s0 → okS h st) (hn : pc + 3 = pc') (kk : ∀ r h', Pq r h' → J l D dA H0 y h0 Po (k + mc) (n + ms) h' pc' lo (r.toList ++ st)) : J l D dA H0 y h0 Po k n h pc lo s0 := by
  subst hn
  intro p e s m args below meth c hC ad0 ad H locs ls hR hG hlc hL hS hl
  obtain ⟨a, hr⟩ := hrun p e s m args below meth c hC ad H locs ls hR hS hl.1
  intro T hT X
  obtain ⟨v, st₀, t, T', L, e0, X', hL', e1, e2, ⟨ad', r, h', hv, hp, hR', hG', hok'⟩, stp⟩ := hr T hT X
  have hv : v = r.map (cv ad') := by injection hv
  have hm : ∀ q, h q ≠ none → h' q ≠ none := fun q hq => (hG' q hq).1
  have key := kk r h' hp p e s m args below meth c hC ad0 ad' T'.heap (locs ++ L) ls (by rw [e1]; exact hR') (hG.tr hG') (fun z hz => by
    rcases List.mem_append.mp hz with hz | hz
    · exact hlc z hz
    · exact hL' z hz) (okL_mono hm hL) (fun z hz => by
    rcases List.mem_append.mp hz with hz | hz
    · cases r with
      | none => cases hz
      | some w => rw [List.mem_singleton.mp hz]; exact hok' w rfl
    · exact okV_mono hm (hst hS z hz)) (by rw [gr_pr hG' 0 hL]; exact hl)
  have hs : (r.toList ++ st).map (cv ad') = v.toList ++ st.map (cv ad) := by
    rw [List.map_append, gr_map hG' (hst hS), hv]
    cases r <;> rfl
  rw [hs] at key
  obtain ⟨t2, a1, b1⟩ := key T' rfl X'
  exact ⟨t2, stp t2 a1, b1⟩
theorem pc_blind {as : List AV} {ad : Hd → Nat} : FrameBlind (fun a U => a = (as.map (cv ad)).toArray ∧ Rp D dA H0 ad h U.heap ∧ okS h as ∧ KK D dA U) := fun a U g mk hq => ⟨hq.1, hq.2.1, hq.2.2.1, KK.same (u := U) (U := U.calling g mk a) rfl hq.2.2.2⟩
theorem good_ws {yn : MethodName} {Y : YY} (hc : Cond.code yn Y.1 Y.2.1 Y.2.2.2.1 ∈ lw_gd) : GoodIn lw_gd (Cond.code yn Y.1 Y.2.1 Y.2.2.2.1 :: lw_gd) := fun w hw => by
  rcases List.mem_cons.mp hw with rfl | hw
  · exact gd_good _ hc
  · exact gd_good _ hw
theorem j_callV {yn : MethodName} {Y : YY} {as : List AV} {q : Hd} {ix c np : Nat} {fs : List AV} {Pq : Option AV → Hp → Prop} (hM : M l D dA H0 yn Y (vR (some q) :: as) h Pq) (cw : CV y.2.2.1 ix yn Y np) (hr : RM y Y) (hq : ∀ e, h q = some e → e = .inr (c, fs)) (hc : (vwCl[c]?).map (fun r => r.1) = some yn.cls) (hlen : as.length = np) (hw : (st.map wd).sum ≤ 8) (hroom : k + Y.2.2.2.2.1.cells ≤ y.2.2.2.2.1.cells ∧ n + Y.2.2.2.2.1.slots ≤ y.2.2.2.2.1.slots) {s0 : List AV} (hs : s0 = as.reverse ++ vR (some q) :: st) (hn : pc + 3 = pc') (hd : decode y.1 pc = .ok (.invokevirtual ix, 3)) (kk : ∀ r h', Pq r h' → J l D dA H0 y h0 Po (k + Y.2.2.2.2.1.cells) (n + Y.2.2.2.2.1.slots) h' pc' lo (r.toList ++ st)) : J l D dA H0 y h0 Po k n h pc lo s0 := by
  subst hs
  refine j_ofRun (st := st) ?_ (fun x v hv => x v (List.mem_append_right _ (List.mem_cons_of_mem _ hv))) hn kk
  intro p e s m args below meth c0 hC ad H locs ls hR hS hsz
  obtain ⟨⟨c1, c2, c3, c4⟩, c5, c6⟩ := cw
  have hts := hC.2.2.2.2.1
  have hqs : okV h (vR (some q)) := hS _ (List.mem_append_right _ List.mem_cons_self)
  obtain ⟨x, hx⟩ := ne_some (show h q ≠ none from hqs)
  have hxe := hq x hx
  subst hxe
  have hP : ∀ U : State, U.heap = H → s.WarmedH U.vm → (fun a U => a = ((vR (some q) :: as).map (cv ad)).toArray ∧ Rp D dA H0 ad h U.heap ∧ okS h (vR (some q) :: as) ∧ KK D dA U) (Value.ref (ad q) :: as.map (cv ad)).toArray U := fun U hU hW => ⟨rfl, by rw [hU]; exact hR, okS_c hqs (fun v hv => hS v (List.mem_append_left _ (List.mem_reverse.mpr hv))), KK.warm hW hC.2.2.2.2.2.2.2.1⟩
  have hrecv : ∃ cellB : Cell, H[ad q]? = some cellB ∧ cellB.vm.isStatics = false ∧ s.vm.findClass yn.cls = some cellB.cls := by
    obtain ⟨r, h1, cell, q1, q2, q3, q4⟩ := (hR.1 q _ hx).1
    rw [h1] at hc
    have hc : r.1 = yn.cls := Option.some.inj hc
    exact ⟨cell, q1, by rw [q3]; rfl, by rw [q2, ← hc]; exact (hC.2.2.2.2.2.2.2.1.1.1.1 c r h1).2.1⟩
  have hstk : ((as.reverse ++ vR (some q) :: st).map (cv ad)) = (as.map (cv ad)).reverse ++ .ref (ad q) :: st.map (cv ad) := by
    rw [List.map_append, List.map_reverse]
    rfl
  refine ⟨(Value.ref (ad q) :: as.map (cv ad)).toArray, ?_⟩
  rcases c1 with c1 | c1
  · exact va_runV (C := yn.cls) ⟨hC.1, hC.2.1, hC.2.2.1, hC.2.2.2.1, hts⟩ (hM ad) ⟨callB_of np hts (good_ws c3) rfl rfl rfl (hts _ c2) (hts _ c1) c4 hr, hts _ c5, hts _ c6⟩ ⟨pc_blind, hrecv, hP⟩ rfl (by rw [List.length_map]; exact hlen) hsz hstk (by rw [wd_sum]; show 2 * 0 + _ ≤ 8; omega) hd hroom
  · exact va_runVN (C := yn.cls) ⟨hC.1, hC.2.1, hC.2.2.1, hC.2.2.2.1, hts⟩ (hM ad) ⟨va_cnB np hts (good_ws c3) rfl rfl rfl (hC.2.2.2.2.2.2.2.1.2.1 _ c1) (hts _ c2) c4 hr, hts _ c5, hts _ c6⟩ ⟨pc_blind, hrecv, hP⟩ rfl (by rw [List.length_map]; exact hlen) hsz hstk (by rw [wd_sum]; show 2 * 0 + _ ≤ 8; omega) hd hroom
theorem j_callS {yn : MethodName} {Y : YY} {as : List AV} {ix np : Nat} {Pq : Option AV → Hp → Prop} (hM : M l D dA H0 yn Y as h Pq) (cw : CS y.2.2.1 ix yn Y np) (hr : RM y Y) (hlen : as.length = np) (hw : (st.map wd).sum ≤ 8) (hroom : k + Y.2.2.2.2.1.cells ≤ y.2.2.2.2.1.cells ∧ n + Y.2.2.2.2.1.slots ≤ y.2.2.2.2.1.slots) {s0 : List AV} (hs : s0 = as.reverse ++ st) (hn : pc + 3 = pc') (hd : decode y.1 pc = .ok (.invokestatic ix, 3)) (kk : ∀ r h', Pq r h' → J l D dA H0 y h0 Po (k + Y.2.2.2.2.1.cells) (n + Y.2.2.2.2.1.slots) h' pc' lo (r.toList ++ st)) : J l D dA H0 y h0 Po k n h pc lo s0 := by
  subst hs
  refine j_ofRun (st := st) ?_ (fun x v hv => x v (List.mem_append_right _ hv)) hn kk
  intro p e s m args below meth c0 hC ad H locs ls hR hS hsz
  obtain ⟨⟨c1, c2, c3, c4⟩, c5⟩ := cw
  have hts := hC.2.2.2.2.1
  have hP : ∀ U : State, U.heap = H → s.WarmedH U.vm → (fun a U => a = (as.map (cv ad)).toArray ∧ Rp D dA H0 ad h U.heap ∧ okS h as ∧ KK D dA U) (as.map (cv ad)).toArray U := fun U hU hW => ⟨rfl, by rw [hU]; exact hR, (fun v hv => hS v (List.mem_append_left _ (List.mem_reverse.mpr hv))), KK.warm hW hC.2.2.2.2.2.2.2.1⟩
  have hstk : ((as.reverse ++ st).map (cv ad)) = (as.map (cv ad)).reverse ++ st.map (cv ad) := by
    rw [List.map_append, List.map_reverse]
  refine ⟨(as.map (cv ad)).toArray, ?_⟩
  rcases c1 with c1 | c1
  · exact va_runS ⟨hC.1, hC.2.1, hC.2.2.1, hC.2.2.2.1, hts⟩ (hM ad) ⟨callB_of np hts (good_ws c3) rfl rfl rfl (hts _ c2) (hts _ c1) c4 hr, hts _ c5⟩ ⟨pc_blind, hP⟩ rfl (by rw [List.length_map]; exact hlen) hsz hstk (by rw [wd_sum]; show 2 * 0 + _ ≤ 8; omega) hd hroom
  · exact va_runSN ⟨hC.1, hC.2.1, hC.2.2.1, hC.2.2.2.1, hts⟩ (hM ad) ⟨va_cnB np hts (good_ws c3) rfl rfl rfl (hC.2.2.2.2.2.2.2.1.2.1 _ c1) (hts _ c2) c4 hr, hts _ c5, trivial⟩ ⟨pc_blind, hP⟩ rfl (by rw [List.length_map]; exact hlen) hsz hstk (by rw [wd_sum]; show 2 * 0 + _ ≤ 8; omega) hd hroom
theorem j_callI {yn : MethodName} {Y : YY} {as : List AV} {q : Hd} {ix np : Nat} {Pq : Option AV → Hp → Prop} (hM : M l D dA H0 yn Y (vR (some q) :: as) h Pq) (cw : CI y.2.2.1 ix yn Y np) (hr : RM y Y) (hlen : as.length = np) (hw : (st.map wd).sum ≤ 8) (hroom : k + Y.2.2.2.2.1.cells ≤ y.2.2.2.2.1.cells ∧ n + Y.2.2.2.2.1.slots ≤ y.2.2.2.2.1.slots) {s0 : List AV} (hs : s0 = as.reverse ++ vR (some q) :: st) (hn : pc + 3 = pc') (hd : decode y.1 pc = .ok (.invokespecial ix, 3)) (kk : ∀ r h', Pq r h' → J l D dA H0 y h0 Po (k + Y.2.2.2.2.1.cells) (n + Y.2.2.2.2.1.slots) h' pc' lo (r.toList ++ st)) : J l D dA H0 y h0 Po k n h pc lo s0 := by
  subst hs
  refine j_ofRun (st := st) ?_ (fun x v hv => x v (List.mem_append_right _ (List.mem_cons_of_mem _ hv))) hn kk
  intro p e s m args below meth c0 hC ad H locs ls hR hS hsz
  obtain ⟨⟨c1, c2, c3, c4⟩, c5, c6, c7⟩ := cw
  have hts := hC.2.2.2.2.1
  have hqs : okV h (vR (some q)) := hS _ (List.mem_append_right _ List.mem_cons_self)
  have hP : ∀ U : State, U.heap = H → s.WarmedH U.vm → (fun a U => a = ((vR (some q) :: as).map (cv ad)).toArray ∧ Rp D dA H0 ad h U.heap ∧ okS h (vR (some q) :: as) ∧ KK D dA U) (Value.ref (ad q) :: as.map (cv ad)).toArray U := fun U hU hW => ⟨rfl, by rw [hU]; exact hR, okS_c hqs (fun v hv => hS v (List.mem_append_left _ (List.mem_reverse.mpr hv))), KK.warm hW hC.2.2.2.2.2.2.2.1⟩
  have hstk : ((as.reverse ++ vR (some q) :: st).map (cv ad)) = (as.map (cv ad)).reverse ++ .ref (ad q) :: st.map (cv ad) := by
    rw [List.map_append, List.map_reverse]
    rfl
  refine ⟨(Value.ref (ad q) :: as.map (cv ad)).toArray, ?_⟩
  have hMa := hM ad
  rw [c7] at hMa c3
  have hgw : GoodIn lw_gd (Cond.code yn Y.1 Y.2.1 none :: lw_gd) := fun w hw => by
    rcases List.mem_cons.mp hw with rfl | hw
    · exact gd_good _ c3
    · exact gd_good _ hw
  rcases c1 with c1 | c1
  · exact va_runI (b := ad q) (As := as.map (cv ad)) ⟨hC.1, hC.2.1, hC.2.2.1, hC.2.2.2.1, hts⟩ hMa ⟨callB_of np hts hgw rfl rfl rfl (hts _ c2) (hts _ c1) c4 hr, c5, hts _ c6⟩ ⟨pc_blind, hP⟩ rfl (by rw [List.length_map]; exact hlen) hsz hstk (by rw [wd_sum]; show 2 * 0 + _ ≤ 8; omega) hd hroom
  · exact va_runIN (b := ad q) (As := as.map (cv ad)) ⟨hC.1, hC.2.1, hC.2.2.1, hC.2.2.2.1, hts⟩ hMa ⟨va_cnB np hts hgw rfl rfl rfl (hC.2.2.2.2.2.2.2.1.2.1 _ c1) (hts _ c2) c4 hr, c5, hts _ c6⟩ ⟨pc_blind, hP⟩ rfl (by rw [List.length_map]; exact hlen) hsz hstk (by rw [wd_sum]; show 2 * 0 + _ ≤ 8; omega) hd hroom
theorem j_oinit {x : Hd} {ix : Nat} (hw1 : Cond.methodLink y.2.2.1 ix objectInit ∈ lw_gd) (hw2 : Cond.instanceMethod objectInit ∈ lw_gd) (hw3 : Cond.code objectInit ⟨#[0xb1]⟩ 1 none ∈ lw_gd) (hR1 : 1 ≤ y.2.2.2.2.1.frames) (hR2 : (st.map wd).sum + 12 ≤ y.2.2.2.2.1.locals) (hn : pc + 3 = pc') (hd : decode y.1 pc = .ok (.invokespecial ix, 3)) (kk : J l D dA H0 y h0 Po k n h pc' lo st) : J l D dA H0 y h0 Po k n h pc lo (vR (some x) :: st) := by
  subst hn
  intro p e s m args below meth c hC ad0 ad H locs ls hR hG hlc hL hS hl
  have hts := hC.2.2.2.2.1
  exact W.objInit hC.1 hC.2.1 hC.2.2.2.1 (hts _ hw1) (hts _ hw2) (hts _ hw3) rfl (by rw [hC.2.2.1]; exact hl.1) rfl hd hR1 (by rw [wd_sum]; show 2 * 0 + _ + 12 ≤ _; omega) (kk p e s m args below meth c hC ad0 ad H locs ls hR hG hlc hL (okS_t hS) hl)
def dflt : FieldType → Option AV
  | .long => some (vL 0)
  | .object _ => some (vR none)
  | .array _ => some (vR none)
  | .float => none
  | .double => none
  | _ => some (vI 0)
def dchk (ty : FieldType) (o : Option AV) : Bool := match dflt ty, o with
  | some (.inl a), some (.inl b) => a == b
  | some (.inr (.inl a)), some (.inr (.inl b)) => a == b
  | some (.inr (.inr none)), some (.inr (.inr none)) => true
  | _, _ => false
theorem dflt_v {ty : FieldType} {fs : List AV} {j : Nat} (h : dchk ty fs[j]? = true) (ad : Hd → Nat) : defaultValue ty = vp_V (fs.map (cv ad)) j := by
  unfold vp_V
  rw [List.getD_eq_getElem?_getD, List.getElem?_map]
  cases hf : fs[j]? with
  | none => rw [hf] at h; cases ty <;> cases h
  | some v =>
    rw [hf] at h
    rcases v with x | x | _ | q
    · cases ty <;> first | (cases h; done) | (have e : (0 : Int32) = x := by simpa [dchk, dflt] using h
                                              subst e; rfl)
    · cases ty <;> first | (cases h; done) | (have e : (0 : Int64) = x := by simpa [dchk, dflt] using h
                                              subst e; rfl)
    · cases ty <;> first | (cases h; done) | rfl
    · cases ty <;> cases h
/-- a new object, at a handle that is free -/
theorem j_new (q : Hd) {ix c : Nat} {C : String} {T : u_T} {N : Nat} {fs : List AV} (hq : h q = none) (hc : vwCl[c]? = some (C, T, N)) (hin : ∀ w ∈ u_ws C T N, w ∈ lw_gd) (ty : Nat → FieldType) (hty : ∀ k, k < N → parseFieldDescriptor (T k).2.2.1 = some (ty k)) (hw : Cond.classLink y.2.2.1 ix C ∈ lw_gd ∧ Cond.instantiable C N ∈ lw_gd ∧ Cond.initialized C ∈ lw_gd) (hfs : ∀ j, j < N → dchk (ty j) fs[j]? = true) (hok : ∀ h' : Hp, okE h' (.inr (c, fs))) (hroom : k + 1 ≤ y.2.2.2.2.1.cells ∧ n + N ≤ y.2.2.2.2.1.slots) (hn : pc + 3 = pc') (hd : decode y.1 pc = .ok (.new ix, 3)) (kk : J l D dA H0 y h0 Po (k + 1) (n + N) (up h q (.inr (c, fs))) pc' lo (vR (some q) :: st)) : J l D dA H0 y h0 Po k n h pc lo st := by
  subst hn
  intro p e s m args below meth c0 hC ad0 ad H locs ls hR hG hlc hL hS hl
  have hts := hC.2.2.2.2.1
  have hKn := hC.2.2.2.2.2.2.2.1.1.1.1 c _ hc
  refine W.newcK hC.1 hC.2.1 hC.2.2.2.1 (hts _ hw.1) (hts _ hw.2.1) (hts _ hw.2.2) rfl hd hroom.1 hroom.2 hKn.2.1 rfl fun H1 kC hkC e1 z1 o1 => ?_
  have hat : va_at D vwCl (H.size, ce dA ad (.inr (c, fs))) H1 := ⟨_, hc, (u_born ty hts hin hKn hkC e1 hty).to (fun j hj => dflt_v (hfs j hj) ad)⟩
  have key := kk p e s m args below meth c0 hC ad0 (nad ad q H.size) H1 locs ls (hR.new hq hat (by omega) o1 (hok h)) (hG.new hq) hlc (okL_mono (fun _ => up_live) hL) (okS_c (by rw [okV, up_self]; exact fun z => by cases z) (okS_mono (fun _ => up_live) hS)) (by rw [pr_nad hq 0 hL]; exact hl)
  have hs : (vR (some q) :: st).map (cv (nad ad q H.size)) = .ref H.size :: st.map (cv ad) := by
    show Value.ref _ :: _ = _
    rw [map_nad hq hS]
    simp [nad]
  rw [hs] at key
  exact key
/-- a new array of numbers -/
theorem j_newa (q : Hd) {a : Nat} {at0 : ArrayType} {aa : AA} {i : Int32} {N : Nat} (hq : h q = none) (ha : a < 3 ∧ newarray.typeOf at0 = tyA a) (hw : Cond.arrayClass (tyA a) ∈ lw_gd) (hi : ¬ i < 0 ∧ i.toNatClampNeg = N) (hb : N * componentBytes (tyA a) ≤ 536870912) (haa : (∀ (cA : ClassId) (ad : Hd → Nat), vp_cell cA (N, ca ad aa) = arrV cA N (fun _ => defaultValue (tyA a))) ∧ ∀ h' : Hp, okE h' (.inl (a, N, aa))) (hroom : k + 1 ≤ y.2.2.2.2.1.cells ∧ n + N ≤ y.2.2.2.2.1.slots) (hn : pc + 2 = pc') (hd : decode y.1 pc = .ok (.newarray at0, 2)) (kk : J l D dA H0 y h0 Po (k + 1) (n + N) (up h q (.inl (a, N, aa))) pc' lo (vR (some q) :: st)) : J l D dA H0 y h0 Po k n h pc lo (vI i :: st) := by
  subst hn
  intro p e s m args below meth c0 hC ad0 ad H locs ls hR hG hlc hL hS hl
  have hts := hC.2.2.2.2.1
  have hra := (hC.2.2.2.2.2.2.2.1.1.2 a (by omega)).2
  have hra : s.vm.findClass ("[" ++ (tyA a).toString) = some (dA a) := by
    obtain ⟨h3, -⟩ := ha
    match a, h3, hra with
    | 0, _, h => exact h
    | 1, _, h => exact h
    | 2, _, h => exact h
  refine va_newaK (atype := at0) hC.1 hC.2.1 (by rw [ha.2]; exact hts _ hw) rfl hd rfl hi.1 hi.2 (by rw [ha.2]; exact hb) hroom.1 hroom.2 rfl fun H1 cA e1 z1 o1 hAr hNm => ?_
  rw [ha.2] at hNm e1
  have hcA : cA = dA a := Option.some.inj (hNm.symm.trans hra)
  subst hcA
  have hat : va_at D vwCl (H.size, ce dA ad (.inl (a, N, aa))) H1 := by
    show H1[H.size]? = some (vp_cell (dA a) (N, ca ad aa))
    rw [haa.1]
    exact e1
  have key := kk p e s m args below meth c0 hC ad0 (nad ad q H.size) H1 locs ls (hR.new hq hat (by omega) o1 (haa.2 h)) (hG.new hq) hlc (okL_mono (fun _ => up_live) hL) (okS_c (by rw [okV, up_self]; exact fun z => by cases z) (okS_mono (fun _ => up_live) (okS_t hS))) (by rw [pr_nad hq 0 hL]; exact hl)
  have hs : (vR (some q) :: st).map (cv (nad ad q H.size)) = .ref H.size :: st.map (cv ad) := by
    show Value.ref _ :: _ = _
    rw [map_nad hq (okS_t hS)]
    simp [nad]
  rw [hs] at key
  exact key
/-- a new array of objects -/
theorem j_newq (q : Hd) {a : Nat} {C : String} {ix : Nat} {i : Int32} {N : Nat} (hq : h q = none) (ha : a < 7 ∧ tyA a = .object C) (hov : ∀ U : State, KK D dA U → va_AO C U) (hw : Cond.classLink y.2.2.1 ix C ∈ lw_gd) (hi : ¬ i < 0 ∧ i.toNatClampNeg = N) (hb : N * 4 ≤ 536870912) (hroom : k + 1 ≤ y.2.2.2.2.1.cells ∧ n + N ≤ y.2.2.2.2.1.slots) (hn : pc + 3 = pc') (hd : decode y.1 pc = .ok (.anewarray ix, 3)) (kk : J l D dA H0 y h0 Po (k + 1) (n + N) (up h q (.inl (a, N, .inr (.inr (fun _ => none))))) pc' lo (vR (some q) :: st)) : J l D dA H0 y h0 Po k n h pc lo (vI i :: st) := by
  subst hn
  intro p e s m args below meth c0 hC ad0 ad H locs ls hR hG hlc hL hS hl
  have hts := hC.2.2.2.2.1
  obtain ⟨hi1, rfl⟩ := hi
  have hra := (hC.2.2.2.2.2.2.2.1.1.2 a ha.1).2
  rw [ha.2] at hra
  obtain ⟨kA0, comp0, -, -, -, hra⟩ := hra
  refine W.anew hC.1 hC.2.1 hC.2.2.2.1 (hts _ hw) (va_AO.use (hov s hC.2.2.2.2.2.2.2.1)) rfl hd rfl hi1 hb hroom.1 hroom.2 fun cA kA comp f1 f2 f3 f4 => ?_
  generalize hH1 : H.push ({ cls := cA, slots := Array.replicate i.toNatClampNeg .null, vm := .none } : Cell) = H1
  have z1 : H1.size = H.size + 1 := by rw [← hH1, Array.size_push]
  have e1 : H1[H.size]? = some (arrV cA i.toNatClampNeg (fun _ => .null)) := by rw [← hH1, Array.getElem?_push_size, ← arrV_new]
  have o1 : ∀ q : Nat, q < H.size → H1[q]? = H[q]? := fun q hq => by rw [← hH1, Array.getElem?_push, if_neg (Nat.ne_of_lt hq)]
  have hcA : cA = dA a := Option.some.inj (f1.symm.trans hra)
  subst hcA
  have hat : va_at D vwCl (H.size, ce dA ad (.inl (a, i.toNatClampNeg, .inr (.inr (fun _ => none))))) H1 := e1
  have key := kk p e s m args below meth c0 hC ad0 (nad ad q H.size) H1 locs ls (hR.new hq hat (by omega) o1 (fun _ _ h => by cases h)) (hG.new hq) hlc (okL_mono (fun _ => up_live) hL) (okS_c (by rw [okV, up_self]; exact fun z => by cases z) (okS_mono (fun _ => up_live) (okS_t hS))) (by rw [pr_nad hq 0 hL]; exact hl)
  have hs : (vR (some q) :: st).map (cv (nad ad q H.size)) = .ref H.size :: st.map (cv ad) := by
    show Value.ref _ :: _ = _
    rw [map_nad hq (okS_t hS)]
    simp [nad]
  rw [hs] at key
  exact key
abbrev jmax (a b : Int32) : Int32 := if a < b then b else a
abbrev jmin (a b : Int32) : Int32 := if b < a then b else a
theorem j_max {a b : Int32} {ix : Nat} (hw : Cond.methodLink y.2.2.1 ix Lib.Math.max.name ∈ lw_gd ∧ Cond.static Lib.Math.max.name ∈ lw_gd ∧ Cond.initialized "java/lang/Math" ∈ lw_gd ∧ Cond.code Lib.Math.max.name Lib.Math.max.code 2 (some .int) ∈ lw_gd) (hR1 : 1 ≤ y.2.2.2.2.1.frames) (hR2 : (st.map wd).sum + 13 ≤ y.2.2.2.2.1.locals) (hroom : k ≤ y.2.2.2.2.1.cells ∧ n ≤ y.2.2.2.2.1.slots) (hn : pc + 3 = pc') (hd : decode y.1 pc = .ok (.invokestatic ix, 3)) (kk : J l D dA H0 y h0 Po k n h pc' lo (vI (jmax a b) :: st)) : J l D dA H0 y h0 Po k n h pc lo (vI b :: vI a :: st) := by
  subst hn
  intro p e s m args below meth c hC ad0 ad H locs ls hR hG hlc hL hS hl
  have hts := hC.2.2.2.2.1
  exact va_mmax hC.1 hC.2.1 (by rw [hC.2.2.1]; exact hl.1.symm) hC.2.2.2.1 (hts _ hw.1) (hts _ hw.2.1) (hts _ hw.2.2.1) (hts _ hw.2.2.2) hR1 (by rw [wd_sum]; exact hR2) hroom.1 hroom.2 hd (kk p e s m args below meth c hC ad0 ad H locs ls hR hG hlc hL (okS_c trivial (okS_t (okS_t hS))) hl)
theorem j_min {a b : Int32} {ix : Nat} (hw : Cond.methodLink y.2.2.1 ix Lib.Math.min.name ∈ lw_gd ∧ Cond.static Lib.Math.min.name ∈ lw_gd ∧ Cond.initialized "java/lang/Math" ∈ lw_gd ∧ Cond.code Lib.Math.min.name Lib.Math.min.code 2 (some .int) ∈ lw_gd) (hR1 : 1 ≤ y.2.2.2.2.1.frames) (hR2 : (st.map wd).sum + 13 ≤ y.2.2.2.2.1.locals) (hroom : k ≤ y.2.2.2.2.1.cells ∧ n ≤ y.2.2.2.2.1.slots) (hn : pc + 3 = pc') (hd : decode y.1 pc = .ok (.invokestatic ix, 3)) (kk : J l D dA H0 y h0 Po k n h pc' lo (vI (jmin a b) :: st)) : J l D dA H0 y h0 Po k n h pc lo (vI b :: vI a :: st) := by
  subst hn
  intro p e s m args below meth c hC ad0 ad H locs ls hR hG hlc hL hS hl
  have hts := hC.2.2.2.2.1
  exact va_mmin hC.1 hC.2.1 (by rw [hC.2.2.1]; exact hl.1.symm) hC.2.2.2.1 (hts _ hw.1) (hts _ hw.2.1) (hts _ hw.2.2.1) (hts _ hw.2.2.2) hR1 (by rw [wd_sum]; exact hR2) hroom.1 hroom.2 hd (kk p e s m args below meth c hC ad0 ad H locs ls hR hG hlc hL (okS_c trivial (okS_t (okS_t hS))) hl)
/-- the locals at a method's entry -/
def ent : List AV → List (Option AV)
  | [] => []
  | .inr (.inl x) :: t => some (vL x) :: none :: ent t
  | v :: t => some v :: ent t
theorem ent_pr {ad : Hd → Nat} : ∀ (as : List AV) (i : Nat), pr ad i (ent as) = lv_args i (as.map (cv ad))
  | [], i => rfl
  | .inl x :: t, i => by
    show (i, _) :: pr ad (i + 1) (ent t) = _
    rw [ent_pr t (i + 1)]; rfl
  | .inr (.inl x) :: t, i => by
    show (i, _) :: pr ad (i + 1 + 1) (ent t) = _
    rw [ent_pr t (i + 1 + 1)]; rfl
  | .inr (.inr none) :: t, i => by
    show (i, _) :: pr ad (i + 1) (ent t) = _
    rw [ent_pr t (i + 1)]; rfl
  | .inr (.inr (some x)) :: t, i => by
    show (i, _) :: pr ad (i + 1) (ent t) = _
    rw [ent_pr t (i + 1)]; rfl
theorem ent_mem {v : AV} : ∀ (as : List AV), some v ∈ ent as → v ∈ as
  | [], h => by cases h
  | .inl x :: t, h => by
    rcases List.mem_cons.mp h with h | h
    · cases h; exact List.mem_cons_self
    · exact List.mem_cons_of_mem _ (ent_mem t h)
  | .inr (.inl x) :: t, h => by
    rcases List.mem_cons.mp h with h | h
    · cases h; exact List.mem_cons_self
    · rcases List.mem_cons.mp h with h | h
      · cases h
      · exact List.mem_cons_of_mem _ (ent_mem t h)
  | .inr (.inr r) :: t, h => by
    rcases List.mem_cons.mp h with h | h
    · cases h; exact List.mem_cons_self
    · exact List.mem_cons_of_mem _ (ent_mem t h)
theorem pr_pad {ad : Hd → Nat} : ∀ (lo : List (Option AV)) (i j : Nat), pr ad i (lo ++ List.replicate j none) = pr ad i lo
  | [], i, 0 => rfl
  | [], i, j + 1 => pr_pad [] (i + 1) j
  | none :: t, i, j => pr_pad t (i + 1) j
  | some v :: t, i, j => by
    exact congrArg (List.cons (i, cv ad v)) (pr_pad t (i + 1) j)
def wds (as : List AV) : Nat := (as.map wd).sum
theorem sl_len {ad : Hd → Nat} : ∀ (as : List AV), (lg_sl (as.map (cv ad))).length = wds as
  | [] => rfl
  | .inl x :: t => by
    have := sl_len (ad := ad) t
    simp [lg_sl, cv, Value.category, wds, wd] at this ⊢; omega
  | .inr (.inl x) :: t => by
    have := sl_len (ad := ad) t
    simp [lg_sl, cv, Value.category, wds, wd] at this ⊢; omega
  | .inr (.inr none) :: t => by
    have := sl_len (ad := ad) t
    simp [lg_sl, cv, Value.category, wds, wd] at this ⊢; omega
  | .inr (.inr (some x)) :: t => by
    have := sl_len (ad := ad) t
    simp [lg_sl, cv, Value.category, wds, wd] at this ⊢; omega
theorem mq_of {p : Program} {e : Env} {R : Room} {s : State} {m : MethodId} {args : Array Value} {below : List Frame} {meth : Method} {c : Code} {H : Heap} {locs : List Loc} {cells slots mc ms : Nat} {g : JFrame} {Qc : Array Value → State → Outcome → State → Prop} {h1 : Hp} {ad0 : Hd → Nat} {free : Addr → Prop} (h : W p l e R s m args below meth c H locs cells slots (vx_MQ below Qc (XX D dA H0 h1 ad0 (fun _ _ => False)) args s mc ms free) g) : W p l e R s m args below meth c H locs cells slots (MQ below Qc args s mc ms free) g := fun T hT X => by
  obtain ⟨t, a, o, b1, b2, b3⟩ := h T hT X
  refine ⟨t, a, o, b1, b2, ?_⟩
  rcases b3 with b3 | ⟨q, -, E, ce, L, ⟨_, _, hf, _⟩, _⟩
  · exact b3
  · exact hf.elim
/-- a contract out of its body -/
theorem m_of {yn : MethodName} {Y : YY} {as : List AV} {j : Nat} (hy : plainName yn.cls = true) (ho : Y.2.2.1 = yn.cls) (hi : Y.2.2.2.2.2.1 = true → yn.name = "<init>") (hX : (∀ s c, Y.2.2.2.2.2.2.1 s c) ∧ Y.2.2.2.2.2.2.2 = []) (hw : wds as ≤ Y.2.1) (kk : J l D dA H0 Y (nx h) Po 0 0 h 0 (ent as ++ List.replicate j none) []) : M l D dA H0 yn Y as h Po := by
  intro ad0
  refine Met.ofW (cc := Y.1) (maxL := Y.2.1) (ret := Y.2.2.2.1) hy rfl ?_
  intro p e s m args below meth c s₁ B hml hv
  obtain ⟨rfl, hR, hS, hK⟩ := hv
  have hts := atoms_spec (ws := Cond.code yn Y.1 Y.2.1 Y.2.2.2.1 :: lw_gd) B.pre
  have hC : MC D dA Y p s m (as.map (cv ad0)).toArray meth c := ⟨B.exec, B.bytes, hml, by rw [ho]; exact findClass_of_methodNamed B.named, fun w hw => hts w (List.mem_cons_of_mem _ hw), B.returns, B.notSynchronized, hK, fun hh => by rw [← hi hh]; exact (name_of_methodNamed B.named B.method).1, hX.1 s c⟩
  have hl := lv_entry (as.map (cv ad0)) (n := Y.2.1) (by rw [sl_len]; exact hw)
  rw [lg_entry_eq]
  exact mq_of (kk p e s m _ below meth c hC ad0 ad0 s.heap [] _ hR Gr.rf (fun _ h => by cases h) (fun v hv => by
    rcases List.mem_append.mp hv with hv | hv
    · exact hS v (ent_mem as hv)
    · cases List.eq_of_mem_replicate hv) (fun _ h => by cases h) (by rw [pr_pad, ent_pr, hX.2]; exact hl))
end CALLS
