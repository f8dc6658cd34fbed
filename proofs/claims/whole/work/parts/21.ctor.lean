section CTOR
variable {l : Launch} {D : va_G} {dA : Nat → ClassId} {H0 : Heap} {h0 : Hx} {Po : Option AV → Hp → Prop}
theorem Rp.kept {ad : Hd → Nat} {h : Hp} {H H1 : Heap} (hR : Rp D dA H0 ad h H) (hz : H.size ≤ H1.size) (ho : ∀ a, a < H.size → H1[a]? = H[a]?) : Rp D dA H0 ad h H1 := by
  obtain ⟨r1, r2, r3, r4, r5⟩ := hR
  exact ⟨fun q e hq => ⟨(r1 q e hq).1.kept (ho _ (r1 q e hq).1.lt), (r1 q e hq).2⟩, r2, r3, by omega, fun a ha => (ho a (by omega)).trans (r5 a ha)⟩
theorem Rp.add {ad : Hd → Nat} {h : Hp} {H1 : Heap} {q : Hd} {e1 : AE} {a : Nat} (hR : Rp D dA H0 ad h H1) (hq : h q = none) (ha : ∀ r, h r ≠ none → ad r ≠ a) (ha0 : H0.size ≤ a) (he : va_at D vwCl (a, ce dA ad e1) H1) (hok : okE h e1) : Rp D dA H0 (nad ad q a) (up h q e1) H1 := by
  obtain ⟨r1, r2, r3, r4, r5⟩ := hR
  have hl : ∀ r, up h q e1 r ≠ none → r = q ∨ (r ≠ q ∧ h r ≠ none) := fun r hr => by
    unfold up at hr
    split at hr
    · rename_i hrq; exact Or.inl hrq
    · rename_i hrq; exact Or.inr ⟨hrq, hr⟩
  refine ⟨fun r x hx => ?_, fun r t hr ht hrt => ?_, fun r x hx => ?_, r4, r5⟩
  · unfold up at hx
    split at hx
    · rename_i hrq
      cases hx
      subst hrq
      refine ⟨?_, by simp [nad]; exact ha0⟩
      rw [ce_nad hq hok]
      show va_at D vwCl (nad ad r a r, _) H1
      rw [show nad ad r a r = a by simp [nad]]
      exact he
    · rename_i hrq
      rw [ce_nad hq (r3 r x hx), nad_ne hrq]
      exact r1 r x hx
  · rcases hl r hr with h1 | ⟨h1, h2⟩ <;> rcases hl t ht with h3 | ⟨h3, h4⟩
    · rw [h1, h3]
    · exfalso
      subst h1
      rw [nad_ne h3, show nad ad r a r = a by simp [nad]] at hrt
      exact ha t h4 hrt.symm
    · exfalso
      subst h3
      rw [nad_ne h1, show nad ad t a t = a by simp [nad]] at hrt
      exact ha r h2 hrt
    · rw [nad_ne h1, nad_ne h3] at hrt
      exact r2 r t h2 h4 hrt
  · unfold up at hx
    split at hx
    · cases hx
      exact okE_mono (fun r => up_live) hok
    · exact okE_mono (fun r => up_live) (r3 r x hx)
theorem W_mna {p : Program} {e : Env} {R : Room} {s : State} {m : MethodId} {args : Array Value} {below : List Frame} {meth : Method} {c : Code} {H : Heap} {locs : List Loc} {cells slots : Nat} {Q : State → Prop} {cc : ByteArray} {pc : Nat} {ls : Array Slot} {rest : List Value} (hexec : p.tables.exec = Jvm.exec) (hb : c.code = cc) {own : String} {index : Nat} (hown : s.vm.findClass own = some m.cls) (hclink : (Cond.classLink own index ("[" ++ (FieldType.array .int).toString)).before args s = true) (hover : AOA s) (harr : (Cond.arrayClass .int).before args s = true)
    (hcells : cells + (1 + 5) ≤ R.cells) (hslots : slots + (5 + 5 * 60) ≤ R.slots) (hdg : decode cc pc = .ok (.multianewarray index 2, 4))
    (kk : ∀ (cA cy : ClassId) (H1 : Heap), s.vm.findClass ("[" ++ (FieldType.array .int).toString) = some cA → s.vm.findClass (FieldType.array .int).toString = some cy → H1.size = H.size + 1 + 5 → (∀ x, x < H.size → H1[x]? = H[x]?) → (∀ j, j < 5 → H1[H.size + 1 + j]? = some (vp_cell cy (60, .inl (fun _ => 0)))) → H1[H.size]? = some (vp_cell cA (5, .inr (.inr (.inr (.inr (fun i => if i < 5 then some (H.size + 1 + i) else none)))))) →
      W p l e R s m args below meth c H1 locs (cells + 1 + 5) (slots + 5 + 5 * 60) Q (F0 m (pc + 4) ls (.ref H.size :: rest))) : W p l e R s m args below meth c H locs cells slots Q (F0 m pc ls (.int 60 :: .int 5 :: rest)) := by
  intro T hT Xs
  have e5 : (5 : Int32).toNatClampNeg = 5 := by decide
  have e60 : (60 : Int32).toNatClampNeg = 60 := by decide
  have hmn := Xs.multianewarray2F hexec hown hclink (show (Cond.arrayOver (.array .int)).before args s = true from hover) harr (g := F0 m pc ls (.int 60 :: .int 5 :: rest)) rfl (by rw [hb]; exact hdg) rfl (by decide) (by decide) (by decide) (by decide) (by decide) rfl rfl (by rw [e5]; exact hcells) (by rw [e5, e60]; exact hslots)
  rw [e5, e60] at hmn
  obtain ⟨vm₁, cA, comp, -, fA, fC, hO, -, X', step⟩ := hmn
  generalize hF : Jvm.Free.Multi.fill (T.setVm vm₁) cA comp 5 60 (defaultValue .int) 5 = Fs at X' step
  have hTh : (T.setVm vm₁).heap = H := hT
  obtain ⟨f1, f2, -, -⟩ := Jvm.Free.Multi.fill_facts (T.setVm vm₁) cA comp 5 60 (defaultValue .int) 5
  rw [hF, hTh] at f1 f2
  have hold : ∀ x : Nat, x < H.size → Fs.heap[x]? = H[x]? := fun x hx => by
    have := Jvm.Free.Multi.fill_old (T.setVm vm₁) cA comp 5 60 (defaultValue .int) (a := x) (by rw [hTh]; exact hx) 5
    rw [hF, hTh] at this
    exact this
  have hrow : ∀ j : Nat, j < 5 → Fs.heap[H.size + 1 + j]? = some (vp_cell comp (60, .inl (fun _ => 0))) := fun j hj => by
    have := Jvm.Free.Multi.fill_inner (T.setVm vm₁) cA comp 5 60 (defaultValue .int) 5 j hj
    rw [hF, hTh] at this
    rw [this, vp_cell_i, ← arrV_new]
    rfl
  rw [vr_outer] at f2
  obtain ⟨t, a1, b1⟩ := kk cA comp Fs.heap fA fC f1 hold hrow f2 Fs rfl X'
  refine ⟨t, step t ?_, b1⟩
  have e : T.heap.size = H.size := by rw [hT]
  rw [e]
  exact a1
abbrev zR : AE := .inl (0, 60, .inl (fun _ => 0))
abbrev gR : AE := .inl (6, 5, .inr (.inr (fun j => if j < 5 then some (16, j) else none)))
theorem j_mna {y : YY} {k n : Nat} {h : Hp} {pc pc' : Nat} {lo : List (Option AV)} {st : List AV} {ix : Nat} (h15 : h (15, 0) = none) (h16 : ∀ i, h (16, i) = none) (hw : Cond.classLink y.2.2.1 ix ("[" ++ (FieldType.array .int).toString) ∈ lw_gd ∧ Cond.arrayClass .int ∈ lw_gd) (hroom : k + (1 + 5) ≤ y.2.2.2.2.1.cells ∧ n + (5 + 5 * 60) ≤ y.2.2.2.2.1.slots) (hn : pc + 4 = pc') (hd : decode y.1 pc = .ok (.multianewarray ix 2, 4)) (kk : J l D dA H0 y h0 Po (k + 1 + 5) (n + 5 + 5 * 60) (up (up (up (up (up (up h (16, 0) zR) (16, 1) zR) (16, 2) zR) (16, 3) zR) (16, 4) zR) (15, 0) gR) pc' lo (vR (some (15, 0)) :: st)) : J l D dA H0 y h0 Po k n h pc lo (vI 60 :: vI 5 :: st) := by
  subst hn
  intro p e s m args below meth c hC ad0 ad H locs ls hR hG hlc hL hS hl
  have hts := hC.2.2.2.2.1
  have hK := hC.2.2.2.2.2.2.2.1
  refine W_mna hC.1 hC.2.1 hC.2.2.2.1 (hts _ hw.1) hK.2.2.2 (hts _ hw.2) hroom.1 hroom.2 hd fun cA cy H1 fA fC z1 o1 i1 g1 => ?_
  have hA : cA = dA 6 := Option.some.inj (fA.symm.trans (show s.vm.findClass _ = some (dA 6) from (hK.1.2 6 (by decide)).2))
  have hy : cy = dA 0 := Option.some.inj (fC.symm.trans (show s.vm.findClass _ = some (dA 0) from (hK.1.2 0 (by decide)).2))
  subst hA
  subst hy
  have R0 : Rp D dA H0 ad h H1 := hR.kept (by omega) o1
  have hH0 := hR.2.2.2.1
  have hlt : ∀ r, h r ≠ none → ad r < H.size := fun r hr => by
    obtain ⟨x, hx⟩ := ne_some hr
    exact (hR.1 r x hx).1.lt
  have inn : ∀ (j : Nat) (ad' : Hd → Nat), j < 5 → va_at D vwCl (H.size + 1 + j, ce dA ad' zR) H1 := fun j ad' hj => i1 j hj
  -- one row after the other
  have step : ∀ (j : Nat) (h' : Hp) (ad' : Hd → Nat), j < 5 → Rp D dA H0 ad' h' H1 → Gr h0.1 ad0 h' ad' → Gr h ad h' ad' → (∀ r, h' r ≠ none → ad' r < H.size ∨ (H.size < ad' r ∧ ad' r < H.size + 1 + j)) → h' (16, j) = none → Rp D dA H0 (nad ad' (16, j) (H.size + 1 + j)) (up h' (16, j) zR) H1 ∧ Gr h0.1 ad0 (up h' (16, j) zR) (nad ad' (16, j) (H.size + 1 + j)) ∧ Gr h ad (up h' (16, j) zR) (nad ad' (16, j) (H.size + 1 + j)) ∧ (∀ r, up h' (16, j) zR r ≠ none → nad ad' (16, j) (H.size + 1 + j) r < H.size ∨ (H.size < nad ad' (16, j) (H.size + 1 + j) r ∧ nad ad' (16, j) (H.size + 1 + j) r < H.size + 1 + (j + 1))) := by
    intro j h' ad' hj r1 r2 r3 r4 r5
    refine ⟨r1.add r5 (fun r hr => by have := r4 r hr; omega) (by omega) (inn j ad' hj) trivial, r2.new r5, r3.new r5, fun r hr => ?_⟩
    unfold up at hr
    by_cases e : r = (16, j)
    · subst e
      rw [show nad ad' (16, j) (H.size + 1 + j) (16, j) = H.size + 1 + j by simp [nad]]
      omega
    · rw [if_neg e] at hr
      rw [nad_ne e]
      have := r4 r hr
      omega
  obtain ⟨a1, b1, c1, d1⟩ := step 0 h ad (by decide) R0 hG Gr.rf (fun r hr => Or.inl (hlt r hr)) (h16 0)
  obtain ⟨a2, b2, c2, d2⟩ := step 1 _ _ (by decide) a1 b1 c1 d1 (by simp [up, h16])
  obtain ⟨a3, b3, c3, d3⟩ := step 2 _ _ (by decide) a2 b2 c2 d2 (by simp [up, h16])
  obtain ⟨a4, b4, c4, d4⟩ := step 3 _ _ (by decide) a3 b3 c3 d3 (by simp [up, h16])
  obtain ⟨a5, b5, c5, d5⟩ := step 4 _ _ (by decide) a4 b4 c4 d4 (by simp [up, h16])
  generalize hh5 : up (up (up (up (up h (16, 0) zR) (16, 1) zR) (16, 2) zR) (16, 3) zR) (16, 4) zR = h5 at a5 b5 c5 d5 kk
  generalize had5 : nad (nad (nad (nad (nad ad (16, 0) (H.size + 1 + 0)) (16, 1) (H.size + 1 + 1)) (16, 2) (H.size + 1 + 2)) (16, 3) (H.size + 1 + 3)) (16, 4) (H.size + 1 + 4) = ad5 at a5 b5 c5 d5
  have g5 : h5 (15, 0) = none := by rw [← hh5]; simp [up, h15]
  have l5 : ∀ j, j < 5 → h5 (16, j) ≠ none ∧ ad5 (16, j) = H.size + 1 + j := by
    intro j hj
    rw [← hh5, ← had5]
    match j, hj with
    | 0, _ => simp [up, nad]
    | 1, _ => simp [up, nad]
    | 2, _ => simp [up, nad]
    | 3, _ => simp [up, nad]
    | 4, _ => simp [up, nad]
  have hgo : va_at D vwCl (H.size, ce dA ad5 gR) H1 := by
    show H1[H.size]? = some (vp_cell (dA 6) (5, .inr (.inr (.inr (.inr (fun j => (if j < 5 then some (16, j) else none : Option Hd).map ad5))))))
    rw [g1]
    refine congrArg (fun f => some (vp_cell (dA 6) (5, .inr (.inr (.inr (.inr f)))))) (funext fun j => ?_)
    by_cases hj : j < 5
    · simp [hj, (l5 j hj).2]
    · simp [hj]
  have a6 := a5.add (q := (15, 0)) (a := H.size) g5 (fun r hr => by have := d5 r hr; omega) (by omega) hgo (fun j q hq => by
    have hq : (if j < 5 then some (16, j) else none : Option Hd) = some q := hq
    by_cases hj : j < 5
    · rw [if_pos hj] at hq; cases hq; exact (l5 j hj).1
    · rw [if_neg hj] at hq; cases hq)
  have b6 := b5.new (e1 := gR) (a := H.size) g5
  have c6 := c5.new (e1 := gR) (a := H.size) g5
  have hm : ∀ q, h q ≠ none → up h5 (15, 0) gR q ≠ none := fun q hq => (c6 q hq).1
  have key := kk p e s m args below meth c hC ad0 _ H1 locs ls a6 b6 hlc (okL_mono hm hL) (okS_c (by rw [okV, up_self]; exact fun z => by cases z) (okS_mono hm (okS_t (okS_t hS)))) (by rw [gr_pr c6 0 hL]; exact hl)
  have hs : (vR (some (15, 0)) :: st).map (cv (nad ad5 (15, 0) H.size)) = .ref H.size :: st.map (cv ad) := by
    show Value.ref _ :: _ = _
    rw [gr_map c6 (okS_t (okS_t hS))]
    simp [nad]
  rw [hs] at key
  exact key
def YH_init : YY := (cX1_init, 1, RX1, none, { frames := 1, cells := 2, slots := 32, locals := 20 }, true, fun _ _ => True, [])
abbrev rawH : AE := .inr (1, [vR none, vR none])
def CH_init (h : Hp) : Hp := (up (up (up (up h (3, 0) (.inl (3, 16, .inr (.inr (fun _ => none))))) (2, 0) (.inr (1, [vR (some (3, 0)), vR none]))) (4, 0) (.inl (2, 16, .inl (fun _ => 0)))) (2, 0) (.inr (1, [vR (some (3, 0)), vR (some (4, 0))])))
set_option maxRecDepth 4000 in
theorem LH_init {h : Hp} (hth : h (2, 0) = some rawH) (hf3 : h (3, 0) = none) (hf4 : h (4, 0) = none) : M l D dA H0 yX1_init YH_init [vR (some (2, 0))] h (fun x h' => x = none ∧ h' = CH_init h) := by
  refine m_of (j := 0) (by decide) rfl (fun _ => rfl) ⟨fun _ _ => trivial, rfl⟩ (le_b rfl) ?_
  refine j_aload_n (pc' := 1) rfl rfl dX1_init_0 ?_
  refine j_oinit (pc' := 4) (gd_of (i := 73) (by decide +kernel) rfl) w_o1 w_o2 (le_b rfl) (le_b rfl) rfl dX1_init_1 ?_
  refine j_aload_n (pc' := 5) rfl rfl dX1_init_4 ?_
  refine j_bipush (pc' := 7) (v := 16) rfl rfl dX1_init_5 ?_
  refine j_newq (3, 0) (pc' := 10) (a := 3) (C := "GuestHouse$Room") (N := 16) (by simp [up, hf3]) ⟨by decide, rfl⟩ (fun _ h9 => h9.2.2.1.1) (gd_of (i := 74) (by decide +kernel) rfl) ⟨by decide, by decide⟩ (by decide) ⟨le_b rfl, le_b rfl⟩ rfl dX1_init_7 ?_
  refine j_putf (pc' := 13) (ty := .array (.object "GuestHouse$Room")) fg_RX1_11 ttX1 rfl (Or.inr ⟨rfl, rfl, rfl⟩) (fun _ => ⟨rfl, rfl⟩) (ce_e (x := .inr (1, [vR none, vR none])) (by simp [up, hth])) (lt_b rfl) rfl dX1_init_10 ?_
  refine j_aload_n (pc' := 14) rfl rfl dX1_init_13 ?_
  refine j_bipush (pc' := 16) (v := 16) rfl rfl dX1_init_14 ?_
  refine j_newa (4, 0) (pc' := 18) (a := 2) (aa := .inl (fun _ => 0)) (N := 16) (by simp [up, hf4]) ⟨by decide, rfl⟩ (gd_of (i := 83) (by decide +kernel) rfl) ⟨by decide, by decide⟩ (by decide) ⟨(fun _ _ => rfl), fun _ => trivial⟩ ⟨le_b rfl, le_b rfl⟩ rfl dX1_init_16 ?_
  refine j_putf (pc' := 21) (ty := .array .boolean) fg_RX1_17 ttX1 rfl (Or.inr ⟨rfl, rfl, rfl⟩) (fun _ => ⟨rfl, rfl⟩) (ce_e (x := .inr (1, [vR (some (3, 0)), vR none])) (by simp [up, hth])) (lt_b rfl) rfl dX1_init_18 ?_
  exact j_ret rfl ⟨rfl, rfl⟩ dX1_init_21 ⟨rfl, rfl⟩
def YB_init : YY := (cX0_init, 1, RX0, none, { frames := 1, cells := 1, slots := 40, locals := 20 }, true, fun _ _ => True, [])
abbrev rawB : AE := .inr (0, [vR none, vI 0])
def CB_init (h : Hp) : Hp := (up (up h (6, 0) (.inl (4, 40, .inr (.inr (fun _ => none))))) (5, 0) (.inr (0, [vR (some (6, 0)), vI 0])))
set_option maxRecDepth 4000 in
theorem LB_init {h : Hp} (hth : h (5, 0) = some rawB) (hf6 : h (6, 0) = none) : M l D dA H0 yX0_init YB_init [vR (some (5, 0))] h (fun x h' => x = none ∧ h' = CB_init h) := by
  refine m_of (j := 0) (by decide) rfl (fun _ => rfl) ⟨fun _ _ => trivial, rfl⟩ (le_b rfl) ?_
  refine j_aload_n (pc' := 1) rfl rfl dX0_init_0 ?_
  refine j_oinit (pc' := 4) (gd_of (i := 89) (by decide +kernel) rfl) w_o1 w_o2 (le_b rfl) (le_b rfl) rfl dX0_init_1 ?_
  refine j_aload_n (pc' := 5) rfl rfl dX0_init_4 ?_
  refine j_bipush (pc' := 7) (v := 40) rfl rfl dX0_init_5 ?_
  refine j_newq (6, 0) (pc' := 10) (a := 4) (C := "GuestHouse$Promise") (N := 40) (by simp [up, hf6]) ⟨by decide, rfl⟩ (fun _ h9 => h9.2.2.1.2.1) (gd_of (i := 90) (by decide +kernel) rfl) ⟨by decide, by decide⟩ (by decide) ⟨le_b rfl, le_b rfl⟩ rfl dX0_init_7 ?_
  refine j_putf (pc' := 13) (ty := .array (.object "GuestHouse$Promise")) fg_RX0_11 ttX0 rfl (Or.inr ⟨rfl, rfl, rfl⟩) (fun _ => ⟨rfl, rfl⟩) (ce_e (x := .inr (0, [vR none, vI 0])) (by simp [up, hth])) (lt_b rfl) rfl dX0_init_10 ?_
  exact j_ret rfl ⟨rfl, rfl⟩ dX0_init_13 ⟨rfl, rfl⟩
def YV_init : YY := (cX7_init, 2, RX7, none, { frames := 1, cells := 3, slots := 25, locals := 20 }, true, fun _ _ => True, [])
abbrev rawV : AE := .inr (7, [vR none, vR none, vR none, vR none, vI 0])
def CV_init (h : Hp) : Hp := (up (up (up (up (up (up (up h (8, 0) (.inl (0, 16, .inl (fun _ => 0)))) (7, 0) (.inr (7, [vR none, vR (some (8, 0)), vR none, vR none, vI 0]))) (9, 0) (.inl (0, 4, .inl (fun _ => 0)))) (7, 0) (.inr (7, [vR none, vR (some (8, 0)), vR (some (9, 0)), vR none, vI 0]))) (10, 0) (.inl (0, 5, .inl (fun _ => 0)))) (7, 0) (.inr (7, [vR none, vR (some (8, 0)), vR (some (9, 0)), vR (some (10, 0)), vI 0]))) (7, 0) (.inr (7, [vR (some (2, 0)), vR (some (8, 0)), vR (some (9, 0)), vR (some (10, 0)), vI 0])))
set_option maxRecDepth 4000 in
theorem LV_init {h : Hp} (hth : h (7, 0) = some rawV) (hf8 : h (8, 0) = none) (hf9 : h (9, 0) = none) (hf10 : h (10, 0) = none) : M l D dA H0 yX7_init YV_init [vR (some (7, 0)), vR (some (2,0))] h (fun x h' => x = none ∧ h' = CV_init h) := by
  refine m_of (j := 0) (by decide) rfl (fun _ => rfl) ⟨fun _ _ => trivial, rfl⟩ (le_b rfl) ?_
  refine j_aload_n (pc' := 1) rfl rfl dX7_init_0 ?_
  refine j_oinit (pc' := 4) (gd_of (i := 106) (by decide +kernel) rfl) w_o1 w_o2 (le_b rfl) (le_b rfl) rfl dX7_init_1 ?_
  refine j_aload_n (pc' := 5) rfl rfl dX7_init_4 ?_
  refine j_bipush (pc' := 7) (v := 16) rfl rfl dX7_init_5 ?_
  refine j_newa (8, 0) (pc' := 9) (a := 0) (aa := .inl (fun _ => 0)) (N := 16) (by simp [up, hf8]) ⟨by decide, rfl⟩ (gd_of (i := 123) (by decide +kernel) rfl) ⟨by decide, by decide⟩ (by decide) ⟨(fun _ _ => rfl), fun _ => trivial⟩ ⟨le_b rfl, le_b rfl⟩ rfl dX7_init_7 ?_
  refine j_putf (pc' := 12) (ty := .array .int) fg_RX7_9 ttX7 rfl (Or.inr ⟨rfl, rfl, rfl⟩) (fun _ => ⟨rfl, rfl⟩) (ce_e (x := .inr (7, [vR none, vR none, vR none, vR none, vI 0])) (by simp [up, hth])) (lt_b rfl) rfl dX7_init_9 ?_
  refine j_aload_n (pc' := 13) rfl rfl dX7_init_12 ?_
  refine j_iconst (pc' := 14) (v := 4) rfl rfl dX7_init_13 ?_
  refine j_newa (9, 0) (pc' := 16) (a := 0) (aa := .inl (fun _ => 0)) (N := 4) (by simp [up, hf9]) ⟨by decide, rfl⟩ (gd_of (i := 123) (by decide +kernel) rfl) ⟨by decide, by decide⟩ (by decide) ⟨(fun _ _ => rfl), fun _ => trivial⟩ ⟨le_b rfl, le_b rfl⟩ rfl dX7_init_14 ?_
  refine j_putf (pc' := 19) (ty := .array .int) fg_RX7_15 ttX7 rfl (Or.inr ⟨rfl, rfl, rfl⟩) (fun _ => ⟨rfl, rfl⟩) (ce_e (x := .inr (7, [vR none, vR (some (8, 0)), vR none, vR none, vI 0])) (by simp [up, hth])) (lt_b rfl) rfl dX7_init_16 ?_
  refine j_aload_n (pc' := 20) rfl rfl dX7_init_19 ?_
  refine j_iconst (pc' := 21) (v := 5) rfl rfl dX7_init_20 ?_
  refine j_newa (10, 0) (pc' := 23) (a := 0) (aa := .inl (fun _ => 0)) (N := 5) (by simp [up, hf10]) ⟨by decide, rfl⟩ (gd_of (i := 123) (by decide +kernel) rfl) ⟨by decide, by decide⟩ (by decide) ⟨(fun _ _ => rfl), fun _ => trivial⟩ ⟨le_b rfl, le_b rfl⟩ rfl dX7_init_21 ?_
  refine j_putf (pc' := 26) (ty := .array .int) fg_RX7_18 ttX7 rfl (Or.inr ⟨rfl, rfl, rfl⟩) (fun _ => ⟨rfl, rfl⟩) (ce_e (x := .inr (7, [vR none, vR (some (8, 0)), vR (some (9, 0)), vR none, vI 0])) (by simp [up, hth])) (lt_b rfl) rfl dX7_init_23 ?_
  refine j_aload_n (pc' := 27) rfl rfl dX7_init_26 ?_
  refine j_aload_n (pc' := 28) rfl rfl dX7_init_27 ?_
  refine j_putf (pc' := 31) (ty := .object "GuestHouse$House") fg_RX7_21 ttX7 rfl (Or.inr ⟨rfl, rfl, rfl⟩) (fun _ => ⟨rfl, rfl⟩) (ce_e (x := .inr (7, [vR none, vR (some (8, 0)), vR (some (9, 0)), vR (some (10, 0)), vI 0])) (by simp [up, hth])) (lt_b rfl) rfl dX7_init_28 ?_
  exact j_ret rfl ⟨rfl, rfl⟩ dX7_init_31 ⟨rfl, rfl⟩
def YP_init : YY := (cX2_init, 4, RX2, none, { frames := 1, cells := 2, slots := 80, locals := 20 }, true, fun _ _ => True, [])
abbrev rawP : AE := .inr (2, [vR none, vR none, vR none, vR none, vR none, vI 0])
def CP_init (h : Hp) : Hp := (up (up (up (up (up (up (up h (12, 0) (.inl (4, 40, .inr (.inr (fun _ => none))))) (11, 0) (.inr (2, [vR none, vR none, vR none, vR (some (12, 0)), vR none, vI 0]))) (13, 0) (.inl (2, 40, .inl (fun _ => 0)))) (11, 0) (.inr (2, [vR none, vR none, vR none, vR (some (12, 0)), vR (some (13, 0)), vI 0]))) (11, 0) (.inr (2, [vR (some (2, 0)), vR none, vR none, vR (some (12, 0)), vR (some (13, 0)), vI 0]))) (11, 0) (.inr (2, [vR (some (2, 0)), vR (some (5, 0)), vR none, vR (some (12, 0)), vR (some (13, 0)), vI 0]))) (11, 0) (.inr (2, [vR (some (2, 0)), vR (some (5, 0)), vR (some (7, 0)), vR (some (12, 0)), vR (some (13, 0)), vI 0])))
set_option maxRecDepth 4000 in
theorem LP_init {h : Hp} (hth : h (11, 0) = some rawP) (hf12 : h (12, 0) = none) (hf13 : h (13, 0) = none) : M l D dA H0 yX2_init YP_init [vR (some (11, 0)), vR (some (2,0)), vR (some (5,0)), vR (some (7,0))] h (fun x h' => x = none ∧ h' = CP_init h) := by
  refine m_of (j := 0) (by decide) rfl (fun _ => rfl) ⟨fun _ _ => trivial, rfl⟩ (le_b rfl) ?_
  refine j_aload_n (pc' := 1) rfl rfl dX2_init_0 ?_
  refine j_oinit (pc' := 4) (gd_of (i := 129) (by decide +kernel) rfl) w_o1 w_o2 (le_b rfl) (le_b rfl) rfl dX2_init_1 ?_
  refine j_aload_n (pc' := 5) rfl rfl dX2_init_4 ?_
  refine j_bipush (pc' := 7) (v := 40) rfl rfl dX2_init_5 ?_
  refine j_newq (12, 0) (pc' := 10) (a := 4) (C := "GuestHouse$Promise") (N := 40) (by simp [up, hf12]) ⟨by decide, rfl⟩ (fun _ h9 => h9.2.2.1.2.1) (gd_of (i := 130) (by decide +kernel) rfl) ⟨by decide, by decide⟩ (by decide) ⟨le_b rfl, le_b rfl⟩ rfl dX2_init_7 ?_
  refine j_putf (pc' := 13) (ty := .array (.object "GuestHouse$Promise")) fg_RX2_11 ttX2 rfl (Or.inr ⟨rfl, rfl, rfl⟩) (fun _ => ⟨rfl, rfl⟩) (ce_e (x := .inr (2, [vR none, vR none, vR none, vR none, vR none, vI 0])) (by simp [up, hth])) (lt_b rfl) rfl dX2_init_10 ?_
  refine j_aload_n (pc' := 14) rfl rfl dX2_init_13 ?_
  refine j_bipush (pc' := 16) (v := 40) rfl rfl dX2_init_14 ?_
  refine j_newa (13, 0) (pc' := 18) (a := 2) (aa := .inl (fun _ => 0)) (N := 40) (by simp [up, hf13]) ⟨by decide, rfl⟩ (gd_of (i := 83) (by decide +kernel) rfl) ⟨by decide, by decide⟩ (by decide) ⟨(fun _ _ => rfl), fun _ => trivial⟩ ⟨le_b rfl, le_b rfl⟩ rfl dX2_init_16 ?_
  refine j_putf (pc' := 21) (ty := .array .boolean) fg_RX2_17 ttX2 rfl (Or.inr ⟨rfl, rfl, rfl⟩) (fun _ => ⟨rfl, rfl⟩) (ce_e (x := .inr (2, [vR none, vR none, vR none, vR (some (12, 0)), vR none, vI 0])) (by simp [up, hth])) (lt_b rfl) rfl dX2_init_18 ?_
  refine j_aload_n (pc' := 22) rfl rfl dX2_init_21 ?_
  refine j_aload_n (pc' := 23) rfl rfl dX2_init_22 ?_
  refine j_putf (pc' := 26) (ty := .object "GuestHouse$House") fg_RX2_21 ttX2 rfl (Or.inr ⟨rfl, rfl, rfl⟩) (fun _ => ⟨rfl, rfl⟩) (ce_e (x := .inr (2, [vR none, vR none, vR none, vR (some (12, 0)), vR (some (13, 0)), vI 0])) (by simp [up, hth])) (lt_b rfl) rfl dX2_init_23 ?_
  refine j_aload_n (pc' := 27) rfl rfl dX2_init_26 ?_
  refine j_aload_n (pc' := 28) rfl rfl dX2_init_27 ?_
  refine j_putf (pc' := 31) (ty := .object "GuestHouse$Book") fg_RX2_25 ttX2 rfl (Or.inr ⟨rfl, rfl, rfl⟩) (fun _ => ⟨rfl, rfl⟩) (ce_e (x := .inr (2, [vR (some (2, 0)), vR none, vR none, vR (some (12, 0)), vR (some (13, 0)), vI 0])) (by simp [up, hth])) (lt_b rfl) rfl dX2_init_28 ?_
  refine j_aload_n (pc' := 32) rfl rfl dX2_init_31 ?_
  refine j_aload_n (pc' := 33) rfl rfl dX2_init_32 ?_
  refine j_putf (pc' := 36) (ty := .object "GuestHouse$Vacancy") fg_RX2_29 ttX2 rfl (Or.inr ⟨rfl, rfl, rfl⟩) (fun _ => ⟨rfl, rfl⟩) (ce_e (x := .inr (2, [vR (some (2, 0)), vR (some (5, 0)), vR none, vR (some (12, 0)), vR (some (13, 0)), vI 0])) (by simp [up, hth])) (lt_b rfl) rfl dX2_init_33 ?_
  exact j_ret rfl ⟨rfl, rfl⟩ dX2_init_36 ⟨rfl, rfl⟩
def YT_init : YY := (cX6_init, 1, RX6, none, { frames := 1, cells := 9, slots := 435, locals := 20 }, true, fun _ _ => True, [])
abbrev rawT : AE := .inr (6, [vR none, vR none, vI 0, vR none, vR none])
def CT_init (h : Hp) : Hp := (up (up (up (up (up (up (up (up (up (up (up (up (up h (16, 0) (.inl (0, 60, .inl (fun _ => 0)))) (16, 1) (.inl (0, 60, .inl (fun _ => 0)))) (16, 2) (.inl (0, 60, .inl (fun _ => 0)))) (16, 3) (.inl (0, 60, .inl (fun _ => 0)))) (16, 4) (.inl (0, 60, .inl (fun _ => 0)))) (15, 0) (.inl (6, 5, .inr (.inr (fun j => if j < 5 then some (16, j) else none))))) (14, 0) (.inr (6, [vR (some (15, 0)), vR none, vI 0, vR none, vR none]))) (17, 0) (.inl (5, 8, .inr (.inr (fun _ => none))))) (14, 0) (.inr (6, [vR (some (15, 0)), vR (some (17, 0)), vI 0, vR none, vR none]))) (18, 0) (.inl (1, 61, .inr (.inl (fun _ => 0))))) (14, 0) (.inr (6, [vR (some (15, 0)), vR (some (17, 0)), vI 0, vR (some (18, 0)), vR none]))) (19, 0) (.inl (0, 61, .inl (fun _ => 0)))) (14, 0) (.inr (6, [vR (some (15, 0)), vR (some (17, 0)), vI 0, vR (some (18, 0)), vR (some (19, 0))])))
set_option maxRecDepth 4000 in
theorem LT_init {h : Hp} (hth : h (14, 0) = some rawT) (hf15 : h (15, 0) = none) (hf16 : ∀ i, h (16, i) = none) (hf17 : h (17, 0) = none) (hf18 : h (18, 0) = none) (hf19 : h (19, 0) = none) : M l D dA H0 yX6_init YT_init [vR (some (14, 0))] h (fun x h' => x = none ∧ h' = CT_init h) := by
  refine m_of (j := 0) (by decide) rfl (fun _ => rfl) ⟨fun _ _ => trivial, rfl⟩ (le_b rfl) ?_
  refine j_aload_n (pc' := 1) rfl rfl dX6_init_0 ?_
  refine j_oinit (pc' := 4) (gd_of (i := 155) (by decide +kernel) rfl) w_o1 w_o2 (le_b rfl) (le_b rfl) rfl dX6_init_1 ?_
  refine j_aload_n (pc' := 5) rfl rfl dX6_init_4 ?_
  refine j_iconst (pc' := 6) (v := 5) rfl rfl dX6_init_5 ?_
  refine j_bipush (pc' := 8) (v := 60) rfl rfl dX6_init_6 ?_
  refine j_mna (pc' := 12) (by simp [up, hf15]) (fun i => by simp [up, hf16]) ⟨gd_of (i := 156) (by decide +kernel) rfl, gd_of (i := 123) (by decide +kernel) rfl⟩ ⟨le_b rfl, le_b rfl⟩ rfl dX6_init_8 ?_
  refine j_putf (pc' := 15) (ty := .array (.array .int)) fg_RX6_11 ttX6 rfl (Or.inr ⟨rfl, rfl, rfl⟩) (fun _ => ⟨rfl, rfl⟩) (ce_e (x := .inr (6, [vR none, vR none, vI 0, vR none, vR none])) (by simp [up, hth])) (lt_b rfl) rfl dX6_init_12 ?_
  refine j_aload_n (pc' := 16) rfl rfl dX6_init_15 ?_
  refine j_bipush (pc' := 18) (v := 8) rfl rfl dX6_init_16 ?_
  refine j_newq (17, 0) (pc' := 21) (a := 5) (C := "GuestHouse$Rule") (N := 8) (by simp [up, hf17]) ⟨by decide, rfl⟩ (fun _ h9 => h9.2.2.1.2.2) (gd_of (i := 158) (by decide +kernel) rfl) ⟨by decide, by decide⟩ (by decide) ⟨le_b rfl, le_b rfl⟩ rfl dX6_init_18 ?_
  refine j_putf (pc' := 24) (ty := .array (.object "GuestHouse$Rule")) fg_RX6_18 ttX6 rfl (Or.inr ⟨rfl, rfl, rfl⟩) (fun _ => ⟨rfl, rfl⟩) (ce_e (x := .inr (6, [vR (some (15, 0)), vR none, vI 0, vR none, vR none])) (by simp [up, hth])) (lt_b rfl) rfl dX6_init_21 ?_
  refine j_aload_n (pc' := 25) rfl rfl dX6_init_24 ?_
  refine j_bipush (pc' := 27) (v := 61) rfl rfl dX6_init_25 ?_
  refine j_newa (18, 0) (pc' := 29) (a := 1) (aa := .inr (.inl (fun _ => 0))) (N := 61) (by simp [up, hf18]) ⟨by decide, rfl⟩ (gd_of (i := 176) (by decide +kernel) rfl) ⟨by decide, by decide⟩ (by decide) ⟨(fun _ _ => rfl), fun _ => trivial⟩ ⟨le_b rfl, le_b rfl⟩ rfl dX6_init_27 ?_
  refine j_putf (pc' := 32) (ty := .array .long) fg_RX6_22 ttX6 rfl (Or.inr ⟨rfl, rfl, rfl⟩) (fun _ => ⟨rfl, rfl⟩) (ce_e (x := .inr (6, [vR (some (15, 0)), vR (some (17, 0)), vI 0, vR none, vR none])) (by simp [up, hth])) (lt_b rfl) rfl dX6_init_29 ?_
  refine j_aload_n (pc' := 33) rfl rfl dX6_init_32 ?_
  refine j_bipush (pc' := 35) (v := 61) rfl rfl dX6_init_33 ?_
  refine j_newa (19, 0) (pc' := 37) (a := 0) (aa := .inl (fun _ => 0)) (N := 61) (by simp [up, hf19]) ⟨by decide, rfl⟩ (gd_of (i := 123) (by decide +kernel) rfl) ⟨by decide, by decide⟩ (by decide) ⟨(fun _ _ => rfl), fun _ => trivial⟩ ⟨le_b rfl, le_b rfl⟩ rfl dX6_init_35 ?_
  refine j_putf (pc' := 40) (ty := .array .int) fg_RX6_26 ttX6 rfl (Or.inr ⟨rfl, rfl, rfl⟩) (fun _ => ⟨rfl, rfl⟩) (ce_e (x := .inr (6, [vR (some (15, 0)), vR (some (17, 0)), vI 0, vR (some (18, 0)), vR none])) (by simp [up, hth])) (lt_b rfl) rfl dX6_init_37 ?_
  exact j_ret rfl ⟨rfl, rfl⟩ dX6_init_40 ⟨rfl, rfl⟩
def YG_init : YY := (cX8_init, 1, RX8, none, { frames := 2, cells := 22, slots := 632, locals := 50 }, true, fun _ _ => True, [])
abbrev rawG : AE := .inr (8, [vR none, vR none, vR none, vR none, vR none, vI 0, vI 0, vI 0])
theorem ci_RX8_9 : CI RX8 9 yX1_init YH_init 0 := ⟨⟨Or.inr (nw_of (i := 70) (by decide +kernel) rfl), gd_of (i := 43) (by decide +kernel) rfl, gd_of (i := 72) (by decide +kernel) rfl, by decide, by decide, by decide +kernel⟩, rfl, gd_of (i := 71) (by decide +kernel) rfl, rfl⟩
theorem ci_RX8_18 : CI RX8 18 yX0_init YB_init 0 := ⟨⟨Or.inr (nw_of (i := 86) (by decide +kernel) rfl), gd_of (i := 44) (by decide +kernel) rfl, gd_of (i := 88) (by decide +kernel) rfl, by decide, by decide, by decide +kernel⟩, rfl, gd_of (i := 87) (by decide +kernel) rfl, rfl⟩
set_option maxRecDepth 100000 in
theorem ci_RX8_25 : CI RX8 25 yX7_init YV_init 1 := ⟨⟨Or.inl (gd_of (i := 103) (by decide +kernel) rfl), gd_of (i := 45) (by decide +kernel) rfl, gd_of (i := 105) rfl rfl, by decide, by decide, by decide +kernel⟩, rfl, gd_of (i := 104) (by decide +kernel) rfl, rfl⟩
set_option maxRecDepth 100000 in
theorem ci_RX8_34 : CI RX8 34 yX2_init YP_init 3 := ⟨⟨Or.inl (gd_of (i := 126) (by decide +kernel) rfl), gd_of (i := 46) (by decide +kernel) rfl, gd_of (i := 128) rfl rfl, by decide, by decide, by decide +kernel⟩, rfl, gd_of (i := 127) (by decide +kernel) rfl, rfl⟩
theorem ci_RX8_43 : CI RX8 43 yX6_init YT_init 0 := ⟨⟨Or.inr (nw_of (i := 152) (by decide +kernel) rfl), gd_of (i := 47) (by decide +kernel) rfl, gd_of (i := 154) (by decide +kernel) rfl, by decide, by decide, by decide +kernel⟩, rfl, gd_of (i := 153) (by decide +kernel) rfl, rfl⟩
def hp0 : Hp := fun _ => none
def CG_init : Hp := (up (CT_init (up (up (CP_init (up (up (CV_init (up (up (CB_init (up (up (CH_init (up (up hp0 (1, 0) rawG) (2, 0) rawH)) (1, 0) (.inr (8, [vR (some (2, 0)), vR none, vR none, vR none, vR none, vI 0, vI 0, vI 0]))) (5, 0) rawB)) (1, 0) (.inr (8, [vR (some (2, 0)), vR (some (5, 0)), vR none, vR none, vR none, vI 0, vI 0, vI 0]))) (7, 0) rawV)) (1, 0) (.inr (8, [vR (some (2, 0)), vR (some (5, 0)), vR (some (7, 0)), vR none, vR none, vI 0, vI 0, vI 0]))) (11, 0) rawP)) (1, 0) (.inr (8, [vR (some (2, 0)), vR (some (5, 0)), vR (some (7, 0)), vR (some (11, 0)), vR none, vI 0, vI 0, vI 0]))) (14, 0) rawT)) (1, 0) (.inr (8, [vR (some (2, 0)), vR (some (5, 0)), vR (some (7, 0)), vR (some (11, 0)), vR (some (14, 0)), vI 0, vI 0, vI 0])))
set_option maxRecDepth 8000 in
theorem LG_init : M l D dA H0 yX8_init YG_init [vR (some (1, 0))] (up hp0 (1, 0) rawG) (fun x h' => x = none ∧ h' = CG_init) := by
  refine m_of (j := 0) (by decide) rfl (fun _ => rfl) ⟨fun _ _ => trivial, rfl⟩ (le_b rfl) ?_
  refine j_aload_n (pc' := 1) rfl rfl dX8_init_0 ?_
  refine j_oinit (pc' := 4) (gd_of (i := 65) (by decide +kernel) rfl) w_o1 w_o2 (le_b rfl) (le_b rfl) rfl dX8_init_1 ?_
  refine j_aload_n (pc' := 5) rfl rfl dX8_init_4 ?_
  refine j_new (2, 0) (pc' := 8) (c := 1) (fs := [vR none, vR none]) rfl rfl gdX1 tyX1 tyX1_ok ⟨gd_of (i := 68) (by decide +kernel) rfl, gd_of (i := 69) (by decide +kernel) rfl, gd_of (i := 43) (by decide +kernel) rfl⟩ (by decide) (fun _ => by simp [okE, okV]) ⟨le_b rfl, le_b rfl⟩ rfl dX8_init_5 ?_
  refine j_dup (pc' := 9) rfl rfl dX8_init_8 ?_
  refine j_callI (pc' := 12) (LH_init rfl rfl rfl) ci_RX8_9 ⟨le_b rfl, le_b rfl⟩ rfl (le_b rfl) ⟨le_b rfl, le_b rfl⟩ rfl rfl dX8_init_9 (fun _ _ hPq => ?_)
  obtain ⟨rfl, rfl⟩ := hPq
  refine j_putf (pc' := 15) (ty := .object "GuestHouse$House") fg_RX8_10 ttX8 rfl (Or.inr ⟨rfl, rfl, rfl⟩) (fun _ => ⟨rfl, rfl⟩) (ce_e (x := .inr (8, [vR none, vR none, vR none, vR none, vR none, vI 0, vI 0, vI 0])) rfl) (lt_b rfl) rfl dX8_init_12 ?_
  refine j_aload_n (pc' := 16) rfl rfl dX8_init_15 ?_
  refine j_new (5, 0) (pc' := 19) (c := 0) (fs := [vR none, vI 0]) rfl rfl gdX0 tyX0 tyX0_ok ⟨gd_of (i := 84) (by decide +kernel) rfl, gd_of (i := 85) (by decide +kernel) rfl, gd_of (i := 44) (by decide +kernel) rfl⟩ (by decide) (fun _ => by simp [okE, okV]) ⟨le_b rfl, le_b rfl⟩ rfl dX8_init_16 ?_
  refine j_dup (pc' := 20) rfl rfl dX8_init_19 ?_
  refine j_callI (pc' := 23) (LB_init rfl rfl) ci_RX8_18 ⟨le_b rfl, le_b rfl⟩ rfl (le_b rfl) ⟨le_b rfl, le_b rfl⟩ rfl rfl dX8_init_20 (fun _ _ hPq => ?_)
  obtain ⟨rfl, rfl⟩ := hPq
  refine j_putf (pc' := 26) (ty := .object "GuestHouse$Book") fg_RX8_19 ttX8 rfl (Or.inr ⟨rfl, rfl, rfl⟩) (fun _ => ⟨rfl, rfl⟩) (ce_e (x := .inr (8, [vR (some (2, 0)), vR none, vR none, vR none, vR none, vI 0, vI 0, vI 0])) rfl) (lt_b rfl) rfl dX8_init_23 ?_
  refine j_aload_n (pc' := 27) rfl rfl dX8_init_26 ?_
  refine j_new (7, 0) (pc' := 30) (c := 7) (fs := [vR none, vR none, vR none, vR none, vI 0]) rfl rfl gdX7 tyX7 tyX7_ok ⟨gd_of (i := 101) (by decide +kernel) rfl, gd_of (i := 102) (by decide +kernel) rfl, gd_of (i := 45) (by decide +kernel) rfl⟩ (by decide) (fun _ => by simp [okE, okV]) ⟨le_b rfl, le_b rfl⟩ rfl dX8_init_27 ?_
  refine j_dup (pc' := 31) rfl rfl dX8_init_30 ?_
  refine j_aload_n (pc' := 32) rfl rfl dX8_init_31 ?_
  refine j_getf (pc' := 35) fg_RX8_10 (ce_e (x := .inr (8, [vR (some (2, 0)), vR (some (5, 0)), vR none, vR none, vR none, vI 0, vI 0, vI 0])) rfl) rfl rfl dX8_init_32 ?_
  refine j_callI (pc' := 38) (LV_init rfl rfl rfl rfl) ci_RX8_25 ⟨le_b rfl, le_b rfl⟩ rfl (le_b rfl) ⟨le_b rfl, le_b rfl⟩ rfl rfl dX8_init_35 (fun _ _ hPq => ?_)
  obtain ⟨rfl, rfl⟩ := hPq
  refine j_putf (pc' := 41) (ty := .object "GuestHouse$Vacancy") fg_RX8_28 ttX8 rfl (Or.inr ⟨rfl, rfl, rfl⟩) (fun _ => ⟨rfl, rfl⟩) (ce_e (x := .inr (8, [vR (some (2, 0)), vR (some (5, 0)), vR none, vR none, vR none, vI 0, vI 0, vI 0])) rfl) (lt_b rfl) rfl dX8_init_38 ?_
  refine j_aload_n (pc' := 42) rfl rfl dX8_init_41 ?_
  refine j_new (11, 0) (pc' := 45) (c := 2) (fs := [vR none, vR none, vR none, vR none, vR none, vI 0]) rfl rfl gdX2 tyX2 tyX2_ok ⟨gd_of (i := 124) (by decide +kernel) rfl, gd_of (i := 125) (by decide +kernel) rfl, gd_of (i := 46) (by decide +kernel) rfl⟩ (by decide) (fun _ => by simp [okE, okV]) ⟨le_b rfl, le_b rfl⟩ rfl dX8_init_42 ?_
  refine j_dup (pc' := 46) rfl rfl dX8_init_45 ?_
  refine j_aload_n (pc' := 47) rfl rfl dX8_init_46 ?_
  refine j_getf (pc' := 50) fg_RX8_10 (ce_e (x := .inr (8, [vR (some (2, 0)), vR (some (5, 0)), vR (some (7, 0)), vR none, vR none, vI 0, vI 0, vI 0])) rfl) rfl rfl dX8_init_47 ?_
  refine j_aload_n (pc' := 51) rfl rfl dX8_init_50 ?_
  refine j_getf (pc' := 54) fg_RX8_19 (ce_e (x := .inr (8, [vR (some (2, 0)), vR (some (5, 0)), vR (some (7, 0)), vR none, vR none, vI 0, vI 0, vI 0])) rfl) rfl rfl dX8_init_51 ?_
  refine j_aload_n (pc' := 55) rfl rfl dX8_init_54 ?_
  refine j_getf (pc' := 58) fg_RX8_28 (ce_e (x := .inr (8, [vR (some (2, 0)), vR (some (5, 0)), vR (some (7, 0)), vR none, vR none, vI 0, vI 0, vI 0])) rfl) rfl rfl dX8_init_55 ?_
  refine j_callI (pc' := 61) (LP_init rfl rfl rfl) ci_RX8_34 ⟨le_b rfl, le_b rfl⟩ rfl (le_b rfl) ⟨le_b rfl, le_b rfl⟩ rfl rfl dX8_init_58 (fun _ _ hPq => ?_)
  obtain ⟨rfl, rfl⟩ := hPq
  refine j_putf (pc' := 64) (ty := .object "GuestHouse$Plan") fg_RX8_37 ttX8 rfl (Or.inr ⟨rfl, rfl, rfl⟩) (fun _ => ⟨rfl, rfl⟩) (ce_e (x := .inr (8, [vR (some (2, 0)), vR (some (5, 0)), vR (some (7, 0)), vR none, vR none, vI 0, vI 0, vI 0])) rfl) (lt_b rfl) rfl dX8_init_61 ?_
  refine j_aload_n (pc' := 65) rfl rfl dX8_init_64 ?_
  refine j_new (14, 0) (pc' := 68) (c := 6) (fs := [vR none, vR none, vI 0, vR none, vR none]) rfl rfl gdX6 tyX6 tyX6_ok ⟨gd_of (i := 150) (by decide +kernel) rfl, gd_of (i := 151) (by decide +kernel) rfl, gd_of (i := 47) (by decide +kernel) rfl⟩ (by decide) (fun _ => by simp [okE, okV]) ⟨le_b rfl, le_b rfl⟩ rfl dX8_init_65 ?_
  refine j_dup (pc' := 69) rfl rfl dX8_init_68 ?_
  refine j_callI (pc' := 72) (LT_init rfl rfl (fun _ => rfl) rfl rfl rfl) ci_RX8_43 ⟨le_b rfl, le_b rfl⟩ rfl (le_b rfl) ⟨le_b rfl, le_b rfl⟩ rfl rfl dX8_init_69 (fun _ _ hPq => ?_)
  obtain ⟨rfl, rfl⟩ := hPq
  refine j_putf (pc' := 75) (ty := .object "GuestHouse$Tariff") fg_RX8_44 ttX8 rfl (Or.inr ⟨rfl, rfl, rfl⟩) (fun _ => ⟨rfl, rfl⟩) (ce_e (x := .inr (8, [vR (some (2, 0)), vR (some (5, 0)), vR (some (7, 0)), vR (some (11, 0)), vR none, vI 0, vI 0, vI 0])) rfl) (lt_b rfl) rfl dX8_init_72 ?_
  exact j_ret rfl ⟨rfl, rfl⟩ dX8_init_75 ⟨rfl, rfl⟩
def YM_init : YY := (cX9_init, 2, RX9, none, { frames := 1, cells := 29, slots := 3432, locals := 20 }, true, fun _ _ => True, [])
abbrev rawM : AE := .inr (9, [vI 0, vR none, vR none, vR none, vR none, vR none, vR none, vR none, vI 0, vI 0, vR none, vR none, vR none, vR none, vR none, vR none, vR none, vR none, vR none, vR none, vI 0, vR none, vI 0, vR none, vR none, vR none, vR none, vR none, vR none, vR none, vR none, vR none, vI 0, vR none, vR none])
abbrev fullM : AE := .inr (9, [vI 0, vR (some (31, 0)), vR (some (32, 0)), vR (some (33, 0)), vR (some (34, 0)), vR (some (35, 0)), vR (some (36, 0)), vR (some (37, 0)), vI 0, vI 0, vR (some (40, 0)), vR (some (41, 0)), vR (some (42, 0)), vR (some (43, 0)), vR (some (44, 0)), vR (some (45, 0)), vR (some (46, 0)), vR (some (47, 0)), vR (some (48, 0)), vR (some (49, 0)), vI 0, vR (some (51, 0)), vI 0, vR (some (53, 0)), vR (some (54, 0)), vR (some (55, 0)), vR (some (56, 0)), vR (some (57, 0)), vR (some (58, 0)), vR (some (59, 0)), vR (some (60, 0)), vR (some (61, 0)), vI 0, vR (some (63, 0)), vR (some (64, 0))])
def CM_arr (h : Hp) : Hp := (up (up (up (up (up (up (up (up (up (up (up (up (up (up (up (up (up (up (up (up (up (up (up (up (up (up (up (up (up (up (up (up (up (up (up (up (up (up (up (up (up (up (up (up (up (up (up (up (up (up (up (up (up (up (up (up (up (up h (31, 0) (.inl (0, 16, .inl (fun _ => 0)))) (30, 0) (.inr (9, [vI 0, vR (some (31, 0)), vR none, vR none, vR none, vR none, vR none, vR none, vI 0, vI 0, vR none, vR none, vR none, vR none, vR none, vR none, vR none, vR none, vR none, vR none, vI 0, vR none, vI 0, vR none, vR none, vR none, vR none, vR none, vR none, vR none, vR none, vR none, vI 0, vR none, vR none]))) (32, 0) (.inl (0, 16, .inl (fun _ => 0)))) (30, 0) (.inr (9, [vI 0, vR (some (31, 0)), vR (some (32, 0)), vR none, vR none, vR none, vR none, vR none, vI 0, vI 0, vR none, vR none, vR none, vR none, vR none, vR none, vR none, vR none, vR none, vR none, vI 0, vR none, vI 0, vR none, vR none, vR none, vR none, vR none, vR none, vR none, vR none, vR none, vI 0, vR none, vR none]))) (33, 0) (.inl (0, 16, .inl (fun _ => 0)))) (30, 0) (.inr (9, [vI 0, vR (some (31, 0)), vR (some (32, 0)), vR (some (33, 0)), vR none, vR none, vR none, vR none, vI 0, vI 0, vR none, vR none, vR none, vR none, vR none, vR none, vR none, vR none, vR none, vR none, vI 0, vR none, vI 0, vR none, vR none, vR none, vR none, vR none, vR none, vR none, vR none, vR none, vI 0, vR none, vR none]))) (34, 0) (.inl (0, 16, .inl (fun _ => 0)))) (30, 0) (.inr (9, [vI 0, vR (some (31, 0)), vR (some (32, 0)), vR (some (33, 0)), vR (some (34, 0)), vR none, vR none, vR none, vI 0, vI 0, vR none, vR none, vR none, vR none, vR none, vR none, vR none, vR none, vR none, vR none, vI 0, vR none, vI 0, vR none, vR none, vR none, vR none, vR none, vR none, vR none, vR none, vR none, vI 0, vR none, vR none]))) (35, 0) (.inl (0, 16, .inl (fun _ => 0)))) (30, 0) (.inr (9, [vI 0, vR (some (31, 0)), vR (some (32, 0)), vR (some (33, 0)), vR (some (34, 0)), vR (some (35, 0)), vR none, vR none, vI 0, vI 0, vR none, vR none, vR none, vR none, vR none, vR none, vR none, vR none, vR none, vR none, vI 0, vR none, vI 0, vR none, vR none, vR none, vR none, vR none, vR none, vR none, vR none, vR none, vI 0, vR none, vR none]))) (36, 0) (.inl (1, 16, .inr (.inl (fun _ => 0))))) (30, 0) (.inr (9, [vI 0, vR (some (31, 0)), vR (some (32, 0)), vR (some (33, 0)), vR (some (34, 0)), vR (some (35, 0)), vR (some (36, 0)), vR none, vI 0, vI 0, vR none, vR none, vR none, vR none, vR none, vR none, vR none, vR none, vR none, vR none, vI 0, vR none, vI 0, vR none, vR none, vR none, vR none, vR none, vR none, vR none, vR none, vR none, vI 0, vR none, vR none]))) (37, 0) (.inl (2, 16, .inl (fun _ => 0)))) (30, 0) (.inr (9, [vI 0, vR (some (31, 0)), vR (some (32, 0)), vR (some (33, 0)), vR (some (34, 0)), vR (some (35, 0)), vR (some (36, 0)), vR (some (37, 0)), vI 0, vI 0, vR none, vR none, vR none, vR none, vR none, vR none, vR none, vR none, vR none, vR none, vI 0, vR none, vI 0, vR none, vR none, vR none, vR none, vR none, vR none, vR none, vR none, vR none, vI 0, vR none, vR none]))) (40, 0) (.inl (0, 40, .inl (fun _ => 0)))) (30, 0) (.inr (9, [vI 0, vR (some (31, 0)), vR (some (32, 0)), vR (some (33, 0)), vR (some (34, 0)), vR (some (35, 0)), vR (some (36, 0)), vR (some (37, 0)), vI 0, vI 0, vR (some (40, 0)), vR none, vR none, vR none, vR none, vR none, vR none, vR none, vR none, vR none, vI 0, vR none, vI 0, vR none, vR none, vR none, vR none, vR none, vR none, vR none, vR none, vR none, vI 0, vR none, vR none]))) (41, 0) (.inl (0, 40, .inl (fun _ => 0)))) (30, 0) (.inr (9, [vI 0, vR (some (31, 0)), vR (some (32, 0)), vR (some (33, 0)), vR (some (34, 0)), vR (some (35, 0)), vR (some (36, 0)), vR (some (37, 0)), vI 0, vI 0, vR (some (40, 0)), vR (some (41, 0)), vR none, vR none, vR none, vR none, vR none, vR none, vR none, vR none, vI 0, vR none, vI 0, vR none, vR none, vR none, vR none, vR none, vR none, vR none, vR none, vR none, vI 0, vR none, vR none]))) (42, 0) (.inl (0, 40, .inl (fun _ => 0)))) (30, 0) (.inr (9, [vI 0, vR (some (31, 0)), vR (some (32, 0)), vR (some (33, 0)), vR (some (34, 0)), vR (some (35, 0)), vR (some (36, 0)), vR (some (37, 0)), vI 0, vI 0, vR (some (40, 0)), vR (some (41, 0)), vR (some (42, 0)), vR none, vR none, vR none, vR none, vR none, vR none, vR none, vI 0, vR none, vI 0, vR none, vR none, vR none, vR none, vR none, vR none, vR none, vR none, vR none, vI 0, vR none, vR none]))) (43, 0) (.inl (0, 40, .inl (fun _ => 0)))) (30, 0) (.inr (9, [vI 0, vR (some (31, 0)), vR (some (32, 0)), vR (some (33, 0)), vR (some (34, 0)), vR (some (35, 0)), vR (some (36, 0)), vR (some (37, 0)), vI 0, vI 0, vR (some (40, 0)), vR (some (41, 0)), vR (some (42, 0)), vR (some (43, 0)), vR none, vR none, vR none, vR none, vR none, vR none, vI 0, vR none, vI 0, vR none, vR none, vR none, vR none, vR none, vR none, vR none, vR none, vR none, vI 0, vR none, vR none]))) (44, 0) (.inl (0, 40, .inl (fun _ => 0)))) (30, 0) (.inr (9, [vI 0, vR (some (31, 0)), vR (some (32, 0)), vR (some (33, 0)), vR (some (34, 0)), vR (some (35, 0)), vR (some (36, 0)), vR (some (37, 0)), vI 0, vI 0, vR (some (40, 0)), vR (some (41, 0)), vR (some (42, 0)), vR (some (43, 0)), vR (some (44, 0)), vR none, vR none, vR none, vR none, vR none, vI 0, vR none, vI 0, vR none, vR none, vR none, vR none, vR none, vR none, vR none, vR none, vR none, vI 0, vR none, vR none]))) (45, 0) (.inl (0, 40, .inl (fun _ => 0)))) (30, 0) (.inr (9, [vI 0, vR (some (31, 0)), vR (some (32, 0)), vR (some (33, 0)), vR (some (34, 0)), vR (some (35, 0)), vR (some (36, 0)), vR (some (37, 0)), vI 0, vI 0, vR (some (40, 0)), vR (some (41, 0)), vR (some (42, 0)), vR (some (43, 0)), vR (some (44, 0)), vR (some (45, 0)), vR none, vR none, vR none, vR none, vI 0, vR none, vI 0, vR none, vR none, vR none, vR none, vR none, vR none, vR none, vR none, vR none, vI 0, vR none, vR none]))) (46, 0) (.inl (0, 40, .inl (fun _ => 0)))) (30, 0) (.inr (9, [vI 0, vR (some (31, 0)), vR (some (32, 0)), vR (some (33, 0)), vR (some (34, 0)), vR (some (35, 0)), vR (some (36, 0)), vR (some (37, 0)), vI 0, vI 0, vR (some (40, 0)), vR (some (41, 0)), vR (some (42, 0)), vR (some (43, 0)), vR (some (44, 0)), vR (some (45, 0)), vR (some (46, 0)), vR none, vR none, vR none, vI 0, vR none, vI 0, vR none, vR none, vR none, vR none, vR none, vR none, vR none, vR none, vR none, vI 0, vR none, vR none]))) (47, 0) (.inl (0, 40, .inl (fun _ => 0)))) (30, 0) (.inr (9, [vI 0, vR (some (31, 0)), vR (some (32, 0)), vR (some (33, 0)), vR (some (34, 0)), vR (some (35, 0)), vR (some (36, 0)), vR (some (37, 0)), vI 0, vI 0, vR (some (40, 0)), vR (some (41, 0)), vR (some (42, 0)), vR (some (43, 0)), vR (some (44, 0)), vR (some (45, 0)), vR (some (46, 0)), vR (some (47, 0)), vR none, vR none, vI 0, vR none, vI 0, vR none, vR none, vR none, vR none, vR none, vR none, vR none, vR none, vR none, vI 0, vR none, vR none]))) (48, 0) (.inl (1, 40, .inr (.inl (fun _ => 0))))) (30, 0) (.inr (9, [vI 0, vR (some (31, 0)), vR (some (32, 0)), vR (some (33, 0)), vR (some (34, 0)), vR (some (35, 0)), vR (some (36, 0)), vR (some (37, 0)), vI 0, vI 0, vR (some (40, 0)), vR (some (41, 0)), vR (some (42, 0)), vR (some (43, 0)), vR (some (44, 0)), vR (some (45, 0)), vR (some (46, 0)), vR (some (47, 0)), vR (some (48, 0)), vR none, vI 0, vR none, vI 0, vR none, vR none, vR none, vR none, vR none, vR none, vR none, vR none, vR none, vI 0, vR none, vR none]))) (49, 0) (.inl (0, 2400, .inl (fun _ => 0)))) (30, 0) (.inr (9, [vI 0, vR (some (31, 0)), vR (some (32, 0)), vR (some (33, 0)), vR (some (34, 0)), vR (some (35, 0)), vR (some (36, 0)), vR (some (37, 0)), vI 0, vI 0, vR (some (40, 0)), vR (some (41, 0)), vR (some (42, 0)), vR (some (43, 0)), vR (some (44, 0)), vR (some (45, 0)), vR (some (46, 0)), vR (some (47, 0)), vR (some (48, 0)), vR (some (49, 0)), vI 0, vR none, vI 0, vR none, vR none, vR none, vR none, vR none, vR none, vR none, vR none, vR none, vI 0, vR none, vR none]))) (51, 0) (.inl (0, 16, .inl (fun _ => 0)))) (30, 0) (.inr (9, [vI 0, vR (some (31, 0)), vR (some (32, 0)), vR (some (33, 0)), vR (some (34, 0)), vR (some (35, 0)), vR (some (36, 0)), vR (some (37, 0)), vI 0, vI 0, vR (some (40, 0)), vR (some (41, 0)), vR (some (42, 0)), vR (some (43, 0)), vR (some (44, 0)), vR (some (45, 0)), vR (some (46, 0)), vR (some (47, 0)), vR (some (48, 0)), vR (some (49, 0)), vI 0, vR (some (51, 0)), vI 0, vR none, vR none, vR none, vR none, vR none, vR none, vR none, vR none, vR none, vI 0, vR none, vR none]))) (53, 0) (.inl (0, 5, .inl (fun _ => 0)))) (30, 0) (.inr (9, [vI 0, vR (some (31, 0)), vR (some (32, 0)), vR (some (33, 0)), vR (some (34, 0)), vR (some (35, 0)), vR (some (36, 0)), vR (some (37, 0)), vI 0, vI 0, vR (some (40, 0)), vR (some (41, 0)), vR (some (42, 0)), vR (some (43, 0)), vR (some (44, 0)), vR (some (45, 0)), vR (some (46, 0)), vR (some (47, 0)), vR (some (48, 0)), vR (some (49, 0)), vI 0, vR (some (51, 0)), vI 0, vR (some (53, 0)), vR none, vR none, vR none, vR none, vR none, vR none, vR none, vR none, vI 0, vR none, vR none]))) (54, 0) (.inl (0, 5, .inl (fun _ => 0)))) (30, 0) (.inr (9, [vI 0, vR (some (31, 0)), vR (some (32, 0)), vR (some (33, 0)), vR (some (34, 0)), vR (some (35, 0)), vR (some (36, 0)), vR (some (37, 0)), vI 0, vI 0, vR (some (40, 0)), vR (some (41, 0)), vR (some (42, 0)), vR (some (43, 0)), vR (some (44, 0)), vR (some (45, 0)), vR (some (46, 0)), vR (some (47, 0)), vR (some (48, 0)), vR (some (49, 0)), vI 0, vR (some (51, 0)), vI 0, vR (some (53, 0)), vR (some (54, 0)), vR none, vR none, vR none, vR none, vR none, vR none, vR none, vI 0, vR none, vR none]))) (55, 0) (.inl (2, 40, .inl (fun _ => 0)))) (30, 0) (.inr (9, [vI 0, vR (some (31, 0)), vR (some (32, 0)), vR (some (33, 0)), vR (some (34, 0)), vR (some (35, 0)), vR (some (36, 0)), vR (some (37, 0)), vI 0, vI 0, vR (some (40, 0)), vR (some (41, 0)), vR (some (42, 0)), vR (some (43, 0)), vR (some (44, 0)), vR (some (45, 0)), vR (some (46, 0)), vR (some (47, 0)), vR (some (48, 0)), vR (some (49, 0)), vI 0, vR (some (51, 0)), vI 0, vR (some (53, 0)), vR (some (54, 0)), vR (some (55, 0)), vR none, vR none, vR none, vR none, vR none, vR none, vI 0, vR none, vR none]))) (56, 0) (.inl (2, 40, .inl (fun _ => 0)))) (30, 0) (.inr (9, [vI 0, vR (some (31, 0)), vR (some (32, 0)), vR (some (33, 0)), vR (some (34, 0)), vR (some (35, 0)), vR (some (36, 0)), vR (some (37, 0)), vI 0, vI 0, vR (some (40, 0)), vR (some (41, 0)), vR (some (42, 0)), vR (some (43, 0)), vR (some (44, 0)), vR (some (45, 0)), vR (some (46, 0)), vR (some (47, 0)), vR (some (48, 0)), vR (some (49, 0)), vI 0, vR (some (51, 0)), vI 0, vR (some (53, 0)), vR (some (54, 0)), vR (some (55, 0)), vR (some (56, 0)), vR none, vR none, vR none, vR none, vR none, vI 0, vR none, vR none]))) (57, 0) (.inl (0, 300, .inl (fun _ => 0)))) (30, 0) (.inr (9, [vI 0, vR (some (31, 0)), vR (some (32, 0)), vR (some (33, 0)), vR (some (34, 0)), vR (some (35, 0)), vR (some (36, 0)), vR (some (37, 0)), vI 0, vI 0, vR (some (40, 0)), vR (some (41, 0)), vR (some (42, 0)), vR (some (43, 0)), vR (some (44, 0)), vR (some (45, 0)), vR (some (46, 0)), vR (some (47, 0)), vR (some (48, 0)), vR (some (49, 0)), vI 0, vR (some (51, 0)), vI 0, vR (some (53, 0)), vR (some (54, 0)), vR (some (55, 0)), vR (some (56, 0)), vR (some (57, 0)), vR none, vR none, vR none, vR none, vI 0, vR none, vR none]))) (58, 0) (.inl (0, 8, .inl (fun _ => 0)))) (30, 0) (.inr (9, [vI 0, vR (some (31, 0)), vR (some (32, 0)), vR (some (33, 0)), vR (some (34, 0)), vR (some (35, 0)), vR (some (36, 0)), vR (some (37, 0)), vI 0, vI 0, vR (some (40, 0)), vR (some (41, 0)), vR (some (42, 0)), vR (some (43, 0)), vR (some (44, 0)), vR (some (45, 0)), vR (some (46, 0)), vR (some (47, 0)), vR (some (48, 0)), vR (some (49, 0)), vI 0, vR (some (51, 0)), vI 0, vR (some (53, 0)), vR (some (54, 0)), vR (some (55, 0)), vR (some (56, 0)), vR (some (57, 0)), vR (some (58, 0)), vR none, vR none, vR none, vI 0, vR none, vR none]))) (59, 0) (.inl (0, 8, .inl (fun _ => 0)))) (30, 0) (.inr (9, [vI 0, vR (some (31, 0)), vR (some (32, 0)), vR (some (33, 0)), vR (some (34, 0)), vR (some (35, 0)), vR (some (36, 0)), vR (some (37, 0)), vI 0, vI 0, vR (some (40, 0)), vR (some (41, 0)), vR (some (42, 0)), vR (some (43, 0)), vR (some (44, 0)), vR (some (45, 0)), vR (some (46, 0)), vR (some (47, 0)), vR (some (48, 0)), vR (some (49, 0)), vI 0, vR (some (51, 0)), vI 0, vR (some (53, 0)), vR (some (54, 0)), vR (some (55, 0)), vR (some (56, 0)), vR (some (57, 0)), vR (some (58, 0)), vR (some (59, 0)), vR none, vR none, vI 0, vR none, vR none]))) (60, 0) (.inl (0, 8, .inl (fun _ => 0)))) (30, 0) (.inr (9, [vI 0, vR (some (31, 0)), vR (some (32, 0)), vR (some (33, 0)), vR (some (34, 0)), vR (some (35, 0)), vR (some (36, 0)), vR (some (37, 0)), vI 0, vI 0, vR (some (40, 0)), vR (some (41, 0)), vR (some (42, 0)), vR (some (43, 0)), vR (some (44, 0)), vR (some (45, 0)), vR (some (46, 0)), vR (some (47, 0)), vR (some (48, 0)), vR (some (49, 0)), vI 0, vR (some (51, 0)), vI 0, vR (some (53, 0)), vR (some (54, 0)), vR (some (55, 0)), vR (some (56, 0)), vR (some (57, 0)), vR (some (58, 0)), vR (some (59, 0)), vR (some (60, 0)), vR none, vI 0, vR none, vR none]))) (61, 0) (.inl (2, 8, .inl (fun _ => 0)))) (30, 0) (.inr (9, [vI 0, vR (some (31, 0)), vR (some (32, 0)), vR (some (33, 0)), vR (some (34, 0)), vR (some (35, 0)), vR (some (36, 0)), vR (some (37, 0)), vI 0, vI 0, vR (some (40, 0)), vR (some (41, 0)), vR (some (42, 0)), vR (some (43, 0)), vR (some (44, 0)), vR (some (45, 0)), vR (some (46, 0)), vR (some (47, 0)), vR (some (48, 0)), vR (some (49, 0)), vI 0, vR (some (51, 0)), vI 0, vR (some (53, 0)), vR (some (54, 0)), vR (some (55, 0)), vR (some (56, 0)), vR (some (57, 0)), vR (some (58, 0)), vR (some (59, 0)), vR (some (60, 0)), vR (some (61, 0)), vI 0, vR none, vR none]))) (63, 0) (.inl (1, 61, .inr (.inl (fun _ => 0))))) (30, 0) (.inr (9, [vI 0, vR (some (31, 0)), vR (some (32, 0)), vR (some (33, 0)), vR (some (34, 0)), vR (some (35, 0)), vR (some (36, 0)), vR (some (37, 0)), vI 0, vI 0, vR (some (40, 0)), vR (some (41, 0)), vR (some (42, 0)), vR (some (43, 0)), vR (some (44, 0)), vR (some (45, 0)), vR (some (46, 0)), vR (some (47, 0)), vR (some (48, 0)), vR (some (49, 0)), vI 0, vR (some (51, 0)), vI 0, vR (some (53, 0)), vR (some (54, 0)), vR (some (55, 0)), vR (some (56, 0)), vR (some (57, 0)), vR (some (58, 0)), vR (some (59, 0)), vR (some (60, 0)), vR (some (61, 0)), vI 0, vR (some (63, 0)), vR none]))) (64, 0) (.inl (0, 61, .inl (fun _ => 0)))) (30, 0) (.inr (9, [vI 0, vR (some (31, 0)), vR (some (32, 0)), vR (some (33, 0)), vR (some (34, 0)), vR (some (35, 0)), vR (some (36, 0)), vR (some (37, 0)), vI 0, vI 0, vR (some (40, 0)), vR (some (41, 0)), vR (some (42, 0)), vR (some (43, 0)), vR (some (44, 0)), vR (some (45, 0)), vR (some (46, 0)), vR (some (47, 0)), vR (some (48, 0)), vR (some (49, 0)), vI 0, vR (some (51, 0)), vI 0, vR (some (53, 0)), vR (some (54, 0)), vR (some (55, 0)), vR (some (56, 0)), vR (some (57, 0)), vR (some (58, 0)), vR (some (59, 0)), vR (some (60, 0)), vR (some (61, 0)), vI 0, vR (some (63, 0)), vR (some (64, 0))])))
def CM_init (h : Hp) : Hp := up (up (CM_arr h) (31, 0) (.inl (0, 16, .inl (fun j => if j < 16 then (-1) else 0)))) (34, 0) (.inl (0, 16, .inl (fun j => if j < 16 then (-1) else 0)))
abbrev mrow (i : Nat) (f : Nat → Int32) : AE := .inl (0, 16, .inl (fun j => if j < i then (-1) else f j))
abbrev mhp (h : Hp) (i : Nat) : Hp := up (up h (31, 0) (mrow i (fun _ => 0))) (34, 0) (mrow i (fun _ => 0))
theorem mrow_s {i : Nat} (hi : i < 16) : upd (fun j => if j < i then (-1 : Int32) else 0) (nI i).toNatClampNeg (-1) = fun j => if j < i + 1 then (-1) else 0 := by
  rw [nI_clamp (by omega)]
  funext j
  unfold upd
  by_cases h1 : j = i
  · subst h1; simp
  · by_cases h2 : j < i
    · simp [h1, h2, Nat.lt_succ_of_lt h2]
    · simp [h1, h2, show ¬ j < i + 1 by omega]
theorem mloop {h : Hp} (hm : h (30, 0) = some fullM) (hP : Po none (mhp h 16)) : ∀ (m i : Nat), i + m = 16 → J l D dA H0 YM_init h0 Po 29 3432 (mhp h i) 238 [some (vR (some (30, 0))), some (vI (nI i))] []
  | 0, i, e => by
    have e : i = 16 := by omega
    subst e
    refine j_iload_n (pc' := 239) rfl rfl dX9_init_238 ?_
    refine j_bipush (pc' := 241) (v := 16) rfl rfl dX9_init_239 ?_
    refine j_ic_ge (pc' := 244) (tg := 264) rfl rfl dX9_init_241 (fun c1 => ?_) (fun c1 => absurd (by decide) c1)
    exact j_ret rfl ⟨rfl, rfl⟩ dX9_init_264 hP
  | m + 1, i, e => by
    have hi : i < 16 := by omega
    refine j_iload_n (pc' := 239) rfl rfl dX9_init_238 ?_
    refine j_bipush (pc' := 241) (v := 16) rfl rfl dX9_init_239 ?_
    refine j_ic_ge (pc' := 244) (tg := 264) rfl rfl dX9_init_241 (fun c1 => absurd c1 (show ¬ nI 16 ≤ nI i from nI_ge hi (by decide))) (fun c1 => ?_)
    refine j_aload_n (pc' := 245) rfl rfl dX9_init_244 ?_
    refine j_getf (pc' := 248) fg_RX9_13 (ce_e (x := fullM) (by simp [up, hm])) rfl rfl dX9_init_245 ?_
    refine j_iload_n (pc' := 249) rfl rfl dX9_init_248 ?_
    refine j_iconst (pc' := 250) (v := (-1)) (by decide) rfl dX9_init_249 ?_
    refine j_iast (pc' := 251) (N := 16) (f := fun j => if j < i then (-1) else 0) (ce_e (by simp [up])) (vp_in_nI hi (by decide)) rfl dX9_init_250 ?_
    rw [mrow_s hi]
    refine j_aload_n (pc' := 252) rfl rfl dX9_init_251 ?_
    refine j_getf (pc' := 255) fg_RX9_23 (ce_e (x := fullM) (by simp [up, hm])) rfl rfl dX9_init_252 ?_
    refine j_iload_n (pc' := 256) rfl rfl dX9_init_255 ?_
    refine j_iconst (pc' := 257) (v := (-1)) (by decide) rfl dX9_init_256 ?_
    refine j_iast (pc' := 258) (N := 16) (f := fun j => if j < i then (-1) else 0) (ce_e (by simp [up])) (vp_in_nI hi (by decide)) rfl dX9_init_257 ?_
    rw [mrow_s hi]
    refine j_iinc (pc' := 261) (v := nI (i + 1)) rfl (nI_1 i) (lt_b rfl) rfl rfl dX9_init_258 ?_
    refine j_goto (tg := 238) rfl dX9_init_261 ?_
    have key := mloop hm hP m (i + 1) (by omega)
    have e2 : up (up (mhp h i) (31, 0) (mrow (i + 1) (fun _ => 0))) (34, 0) (mrow (i + 1) (fun _ => 0)) = mhp h (i + 1) := by
      funext q
      unfold mhp up
      by_cases h1 : q = (34, 0)
      · simp [h1]
      · by_cases h2 : q = (31, 0)
        · simp [h2]
        · simp [h1, h2]
    rw [e2]
    exact key
theorem mloop_0 {h : Hp} (hm : h (30, 0) = some fullM) (h1 : h (31, 0) = some (.inl (0, 16, .inl (fun _ => 0)))) (h2 : h (34, 0) = some (.inl (0, 16, .inl (fun _ => 0)))) {o1 : Option AV} (hP : Po none (mhp h 16)) : J l D dA H0 YM_init h0 Po 29 3432 h 236 [some (vR (some (30, 0))), o1] [] := by
  refine j_iconst (pc' := 237) (v := 0) rfl rfl dX9_init_236 ?_
  refine j_istore_n (pc' := 238) (lt_b rfl) rfl rfl dX9_init_237 ?_
  have key := mloop (l := l) (D := D) (dA := dA) (H0 := H0) (h0 := h0) hm hP 16 0 rfl
  have e2 : mhp h 0 = h := by
    funext q
    unfold mhp up
    by_cases a1 : q = (34, 0)
    · simp [a1, h2]
    · by_cases a2 : q = (31, 0)
      · simp [a2, h1]
      · simp [a1, a2]
  rw [e2] at key
  exact key
set_option maxRecDepth 20000 in
set_option maxHeartbeats 4000000 in
theorem LM_init {h : Hp} (hth : h (30, 0) = some rawM) (hf31 : h (31, 0) = none) (hf32 : h (32, 0) = none) (hf33 : h (33, 0) = none) (hf34 : h (34, 0) = none) (hf35 : h (35, 0) = none) (hf36 : h (36, 0) = none) (hf37 : h (37, 0) = none) (hf40 : h (40, 0) = none) (hf41 : h (41, 0) = none) (hf42 : h (42, 0) = none) (hf43 : h (43, 0) = none) (hf44 : h (44, 0) = none) (hf45 : h (45, 0) = none) (hf46 : h (46, 0) = none) (hf47 : h (47, 0) = none) (hf48 : h (48, 0) = none) (hf49 : h (49, 0) = none) (hf51 : h (51, 0) = none) (hf53 : h (53, 0) = none) (hf54 : h (54, 0) = none) (hf55 : h (55, 0) = none) (hf56 : h (56, 0) = none) (hf57 : h (57, 0) = none) (hf58 : h (58, 0) = none) (hf59 : h (59, 0) = none) (hf60 : h (60, 0) = none) (hf61 : h (61, 0) = none) (hf63 : h (63, 0) = none) (hf64 : h (64, 0) = none) : M l D dA H0 yX9_init YM_init [vR (some (30, 0))] h (fun x h' => x = none ∧ h' = CM_init h) := by
  refine m_of (j := 1) (by decide) rfl (fun _ => rfl) ⟨fun _ _ => trivial, rfl⟩ (le_b rfl) ?_
  refine j_aload_n (pc' := 1) rfl rfl dX9_init_0 ?_
  refine j_oinit (pc' := 4) (gd_of (i := 856) (by decide +kernel) rfl) w_o1 w_o2 (le_b rfl) (le_b rfl) rfl dX9_init_1 ?_
  refine j_aload_n (pc' := 5) rfl rfl dX9_init_4 ?_
  refine j_bipush (pc' := 7) (v := 16) rfl rfl dX9_init_5 ?_
  refine j_newa (31, 0) (pc' := 9) (a := 0) (aa := .inl (fun _ => 0)) (N := 16) (by simp [up, hf31]) ⟨by decide, rfl⟩ (gd_of (i := 123) (by decide +kernel) rfl) ⟨by decide, by decide⟩ (by decide) ⟨(fun _ _ => rfl), fun _ => trivial⟩ ⟨le_b rfl, le_b rfl⟩ rfl dX9_init_7 ?_
  refine j_putf (pc' := 12) (ty := .array .int) fg_RX9_13 ttX9 rfl (Or.inr ⟨rfl, rfl, rfl⟩) (fun _ => ⟨rfl, rfl⟩) (ce_e (x := .inr (9, [vI 0, vR none, vR none, vR none, vR none, vR none, vR none, vR none, vI 0, vI 0, vR none, vR none, vR none, vR none, vR none, vR none, vR none, vR none, vR none, vR none, vI 0, vR none, vI 0, vR none, vR none, vR none, vR none, vR none, vR none, vR none, vR none, vR none, vI 0, vR none, vR none])) (by simp [up, hth])) (lt_b rfl) rfl dX9_init_9 ?_
  refine j_aload_n (pc' := 13) rfl rfl dX9_init_12 ?_
  refine j_bipush (pc' := 15) (v := 16) rfl rfl dX9_init_13 ?_
  refine j_newa (32, 0) (pc' := 17) (a := 0) (aa := .inl (fun _ => 0)) (N := 16) (by simp [up, hf32]) ⟨by decide, rfl⟩ (gd_of (i := 123) (by decide +kernel) rfl) ⟨by decide, by decide⟩ (by decide) ⟨(fun _ _ => rfl), fun _ => trivial⟩ ⟨le_b rfl, le_b rfl⟩ rfl dX9_init_15 ?_
  refine j_putf (pc' := 20) (ty := .array .int) fg_RX9_17 ttX9 rfl (Or.inr ⟨rfl, rfl, rfl⟩) (fun _ => ⟨rfl, rfl⟩) (ce_e (x := .inr (9, [vI 0, vR (some (31, 0)), vR none, vR none, vR none, vR none, vR none, vR none, vI 0, vI 0, vR none, vR none, vR none, vR none, vR none, vR none, vR none, vR none, vR none, vR none, vI 0, vR none, vI 0, vR none, vR none, vR none, vR none, vR none, vR none, vR none, vR none, vR none, vI 0, vR none, vR none])) (by simp [up, hth])) (lt_b rfl) rfl dX9_init_17 ?_
  refine j_aload_n (pc' := 21) rfl rfl dX9_init_20 ?_
  refine j_bipush (pc' := 23) (v := 16) rfl rfl dX9_init_21 ?_
  refine j_newa (33, 0) (pc' := 25) (a := 0) (aa := .inl (fun _ => 0)) (N := 16) (by simp [up, hf33]) ⟨by decide, rfl⟩ (gd_of (i := 123) (by decide +kernel) rfl) ⟨by decide, by decide⟩ (by decide) ⟨(fun _ _ => rfl), fun _ => trivial⟩ ⟨le_b rfl, le_b rfl⟩ rfl dX9_init_23 ?_
  refine j_putf (pc' := 28) (ty := .array .int) fg_RX9_20 ttX9 rfl (Or.inr ⟨rfl, rfl, rfl⟩) (fun _ => ⟨rfl, rfl⟩) (ce_e (x := .inr (9, [vI 0, vR (some (31, 0)), vR (some (32, 0)), vR none, vR none, vR none, vR none, vR none, vI 0, vI 0, vR none, vR none, vR none, vR none, vR none, vR none, vR none, vR none, vR none, vR none, vI 0, vR none, vI 0, vR none, vR none, vR none, vR none, vR none, vR none, vR none, vR none, vR none, vI 0, vR none, vR none])) (by simp [up, hth])) (lt_b rfl) rfl dX9_init_25 ?_
  refine j_aload_n (pc' := 29) rfl rfl dX9_init_28 ?_
  refine j_bipush (pc' := 31) (v := 16) rfl rfl dX9_init_29 ?_
  refine j_newa (34, 0) (pc' := 33) (a := 0) (aa := .inl (fun _ => 0)) (N := 16) (by simp [up, hf34]) ⟨by decide, rfl⟩ (gd_of (i := 123) (by decide +kernel) rfl) ⟨by decide, by decide⟩ (by decide) ⟨(fun _ _ => rfl), fun _ => trivial⟩ ⟨le_b rfl, le_b rfl⟩ rfl dX9_init_31 ?_
  refine j_putf (pc' := 36) (ty := .array .int) fg_RX9_23 ttX9 rfl (Or.inr ⟨rfl, rfl, rfl⟩) (fun _ => ⟨rfl, rfl⟩) (ce_e (x := .inr (9, [vI 0, vR (some (31, 0)), vR (some (32, 0)), vR (some (33, 0)), vR none, vR none, vR none, vR none, vI 0, vI 0, vR none, vR none, vR none, vR none, vR none, vR none, vR none, vR none, vR none, vR none, vI 0, vR none, vI 0, vR none, vR none, vR none, vR none, vR none, vR none, vR none, vR none, vR none, vI 0, vR none, vR none])) (by simp [up, hth])) (lt_b rfl) rfl dX9_init_33 ?_
  refine j_aload_n (pc' := 37) rfl rfl dX9_init_36 ?_
  refine j_bipush (pc' := 39) (v := 16) rfl rfl dX9_init_37 ?_
  refine j_newa (35, 0) (pc' := 41) (a := 0) (aa := .inl (fun _ => 0)) (N := 16) (by simp [up, hf35]) ⟨by decide, rfl⟩ (gd_of (i := 123) (by decide +kernel) rfl) ⟨by decide, by decide⟩ (by decide) ⟨(fun _ _ => rfl), fun _ => trivial⟩ ⟨le_b rfl, le_b rfl⟩ rfl dX9_init_39 ?_
  refine j_putf (pc' := 44) (ty := .array .int) fg_RX9_26 ttX9 rfl (Or.inr ⟨rfl, rfl, rfl⟩) (fun _ => ⟨rfl, rfl⟩) (ce_e (x := .inr (9, [vI 0, vR (some (31, 0)), vR (some (32, 0)), vR (some (33, 0)), vR (some (34, 0)), vR none, vR none, vR none, vI 0, vI 0, vR none, vR none, vR none, vR none, vR none, vR none, vR none, vR none, vR none, vR none, vI 0, vR none, vI 0, vR none, vR none, vR none, vR none, vR none, vR none, vR none, vR none, vR none, vI 0, vR none, vR none])) (by simp [up, hth])) (lt_b rfl) rfl dX9_init_41 ?_
  refine j_aload_n (pc' := 45) rfl rfl dX9_init_44 ?_
  refine j_bipush (pc' := 47) (v := 16) rfl rfl dX9_init_45 ?_
  refine j_newa (36, 0) (pc' := 49) (a := 1) (aa := .inr (.inl (fun _ => 0))) (N := 16) (by simp [up, hf36]) ⟨by decide, rfl⟩ (gd_of (i := 176) (by decide +kernel) rfl) ⟨by decide, by decide⟩ (by decide) ⟨(fun _ _ => rfl), fun _ => trivial⟩ ⟨le_b rfl, le_b rfl⟩ rfl dX9_init_47 ?_
  refine j_putf (pc' := 52) (ty := .array .long) fg_RX9_29 ttX9 rfl (Or.inr ⟨rfl, rfl, rfl⟩) (fun _ => ⟨rfl, rfl⟩) (ce_e (x := .inr (9, [vI 0, vR (some (31, 0)), vR (some (32, 0)), vR (some (33, 0)), vR (some (34, 0)), vR (some (35, 0)), vR none, vR none, vI 0, vI 0, vR none, vR none, vR none, vR none, vR none, vR none, vR none, vR none, vR none, vR none, vI 0, vR none, vI 0, vR none, vR none, vR none, vR none, vR none, vR none, vR none, vR none, vR none, vI 0, vR none, vR none])) (by simp [up, hth])) (lt_b rfl) rfl dX9_init_49 ?_
  refine j_aload_n (pc' := 53) rfl rfl dX9_init_52 ?_
  refine j_bipush (pc' := 55) (v := 16) rfl rfl dX9_init_53 ?_
  refine j_newa (37, 0) (pc' := 57) (a := 2) (aa := .inl (fun _ => 0)) (N := 16) (by simp [up, hf37]) ⟨by decide, rfl⟩ (gd_of (i := 83) (by decide +kernel) rfl) ⟨by decide, by decide⟩ (by decide) ⟨(fun _ _ => rfl), fun _ => trivial⟩ ⟨le_b rfl, le_b rfl⟩ rfl dX9_init_55 ?_
  refine j_putf (pc' := 60) (ty := .array .boolean) fg_RX9_33 ttX9 rfl (Or.inr ⟨rfl, rfl, rfl⟩) (fun _ => ⟨rfl, rfl⟩) (ce_e (x := .inr (9, [vI 0, vR (some (31, 0)), vR (some (32, 0)), vR (some (33, 0)), vR (some (34, 0)), vR (some (35, 0)), vR (some (36, 0)), vR none, vI 0, vI 0, vR none, vR none, vR none, vR none, vR none, vR none, vR none, vR none, vR none, vR none, vI 0, vR none, vI 0, vR none, vR none, vR none, vR none, vR none, vR none, vR none, vR none, vR none, vI 0, vR none, vR none])) (by simp [up, hth])) (lt_b rfl) rfl dX9_init_57 ?_
  refine j_aload_n (pc' := 61) rfl rfl dX9_init_60 ?_
  refine j_bipush (pc' := 63) (v := 40) rfl rfl dX9_init_61 ?_
  refine j_newa (40, 0) (pc' := 65) (a := 0) (aa := .inl (fun _ => 0)) (N := 40) (by simp [up, hf40]) ⟨by decide, rfl⟩ (gd_of (i := 123) (by decide +kernel) rfl) ⟨by decide, by decide⟩ (by decide) ⟨(fun _ _ => rfl), fun _ => trivial⟩ ⟨le_b rfl, le_b rfl⟩ rfl dX9_init_63 ?_
  refine j_putf (pc' := 68) (ty := .array .int) fg_RX9_37 ttX9 rfl (Or.inr ⟨rfl, rfl, rfl⟩) (fun _ => ⟨rfl, rfl⟩) (ce_e (x := .inr (9, [vI 0, vR (some (31, 0)), vR (some (32, 0)), vR (some (33, 0)), vR (some (34, 0)), vR (some (35, 0)), vR (some (36, 0)), vR (some (37, 0)), vI 0, vI 0, vR none, vR none, vR none, vR none, vR none, vR none, vR none, vR none, vR none, vR none, vI 0, vR none, vI 0, vR none, vR none, vR none, vR none, vR none, vR none, vR none, vR none, vR none, vI 0, vR none, vR none])) (by simp [up, hth])) (lt_b rfl) rfl dX9_init_65 ?_
  refine j_aload_n (pc' := 69) rfl rfl dX9_init_68 ?_
  refine j_bipush (pc' := 71) (v := 40) rfl rfl dX9_init_69 ?_
  refine j_newa (41, 0) (pc' := 73) (a := 0) (aa := .inl (fun _ => 0)) (N := 40) (by simp [up, hf41]) ⟨by decide, rfl⟩ (gd_of (i := 123) (by decide +kernel) rfl) ⟨by decide, by decide⟩ (by decide) ⟨(fun _ _ => rfl), fun _ => trivial⟩ ⟨le_b rfl, le_b rfl⟩ rfl dX9_init_71 ?_
  refine j_putf (pc' := 76) (ty := .array .int) fg_RX9_40 ttX9 rfl (Or.inr ⟨rfl, rfl, rfl⟩) (fun _ => ⟨rfl, rfl⟩) (ce_e (x := .inr (9, [vI 0, vR (some (31, 0)), vR (some (32, 0)), vR (some (33, 0)), vR (some (34, 0)), vR (some (35, 0)), vR (some (36, 0)), vR (some (37, 0)), vI 0, vI 0, vR (some (40, 0)), vR none, vR none, vR none, vR none, vR none, vR none, vR none, vR none, vR none, vI 0, vR none, vI 0, vR none, vR none, vR none, vR none, vR none, vR none, vR none, vR none, vR none, vI 0, vR none, vR none])) (by simp [up, hth])) (lt_b rfl) rfl dX9_init_73 ?_
  refine j_aload_n (pc' := 77) rfl rfl dX9_init_76 ?_
  refine j_bipush (pc' := 79) (v := 40) rfl rfl dX9_init_77 ?_
  refine j_newa (42, 0) (pc' := 81) (a := 0) (aa := .inl (fun _ => 0)) (N := 40) (by simp [up, hf42]) ⟨by decide, rfl⟩ (gd_of (i := 123) (by decide +kernel) rfl) ⟨by decide, by decide⟩ (by decide) ⟨(fun _ _ => rfl), fun _ => trivial⟩ ⟨le_b rfl, le_b rfl⟩ rfl dX9_init_79 ?_
  refine j_putf (pc' := 84) (ty := .array .int) fg_RX9_43 ttX9 rfl (Or.inr ⟨rfl, rfl, rfl⟩) (fun _ => ⟨rfl, rfl⟩) (ce_e (x := .inr (9, [vI 0, vR (some (31, 0)), vR (some (32, 0)), vR (some (33, 0)), vR (some (34, 0)), vR (some (35, 0)), vR (some (36, 0)), vR (some (37, 0)), vI 0, vI 0, vR (some (40, 0)), vR (some (41, 0)), vR none, vR none, vR none, vR none, vR none, vR none, vR none, vR none, vI 0, vR none, vI 0, vR none, vR none, vR none, vR none, vR none, vR none, vR none, vR none, vR none, vI 0, vR none, vR none])) (by simp [up, hth])) (lt_b rfl) rfl dX9_init_81 ?_
  refine j_aload_n (pc' := 85) rfl rfl dX9_init_84 ?_
  refine j_bipush (pc' := 87) (v := 40) rfl rfl dX9_init_85 ?_
  refine j_newa (43, 0) (pc' := 89) (a := 0) (aa := .inl (fun _ => 0)) (N := 40) (by simp [up, hf43]) ⟨by decide, rfl⟩ (gd_of (i := 123) (by decide +kernel) rfl) ⟨by decide, by decide⟩ (by decide) ⟨(fun _ _ => rfl), fun _ => trivial⟩ ⟨le_b rfl, le_b rfl⟩ rfl dX9_init_87 ?_
  refine j_putf (pc' := 92) (ty := .array .int) fg_RX9_46 ttX9 rfl (Or.inr ⟨rfl, rfl, rfl⟩) (fun _ => ⟨rfl, rfl⟩) (ce_e (x := .inr (9, [vI 0, vR (some (31, 0)), vR (some (32, 0)), vR (some (33, 0)), vR (some (34, 0)), vR (some (35, 0)), vR (some (36, 0)), vR (some (37, 0)), vI 0, vI 0, vR (some (40, 0)), vR (some (41, 0)), vR (some (42, 0)), vR none, vR none, vR none, vR none, vR none, vR none, vR none, vI 0, vR none, vI 0, vR none, vR none, vR none, vR none, vR none, vR none, vR none, vR none, vR none, vI 0, vR none, vR none])) (by simp [up, hth])) (lt_b rfl) rfl dX9_init_89 ?_
  refine j_aload_n (pc' := 93) rfl rfl dX9_init_92 ?_
  refine j_bipush (pc' := 95) (v := 40) rfl rfl dX9_init_93 ?_
  refine j_newa (44, 0) (pc' := 97) (a := 0) (aa := .inl (fun _ => 0)) (N := 40) (by simp [up, hf44]) ⟨by decide, rfl⟩ (gd_of (i := 123) (by decide +kernel) rfl) ⟨by decide, by decide⟩ (by decide) ⟨(fun _ _ => rfl), fun _ => trivial⟩ ⟨le_b rfl, le_b rfl⟩ rfl dX9_init_95 ?_
  refine j_putf (pc' := 100) (ty := .array .int) fg_RX9_49 ttX9 rfl (Or.inr ⟨rfl, rfl, rfl⟩) (fun _ => ⟨rfl, rfl⟩) (ce_e (x := .inr (9, [vI 0, vR (some (31, 0)), vR (some (32, 0)), vR (some (33, 0)), vR (some (34, 0)), vR (some (35, 0)), vR (some (36, 0)), vR (some (37, 0)), vI 0, vI 0, vR (some (40, 0)), vR (some (41, 0)), vR (some (42, 0)), vR (some (43, 0)), vR none, vR none, vR none, vR none, vR none, vR none, vI 0, vR none, vI 0, vR none, vR none, vR none, vR none, vR none, vR none, vR none, vR none, vR none, vI 0, vR none, vR none])) (by simp [up, hth])) (lt_b rfl) rfl dX9_init_97 ?_
  refine j_aload_n (pc' := 101) rfl rfl dX9_init_100 ?_
  refine j_bipush (pc' := 103) (v := 40) rfl rfl dX9_init_101 ?_
  refine j_newa (45, 0) (pc' := 105) (a := 0) (aa := .inl (fun _ => 0)) (N := 40) (by simp [up, hf45]) ⟨by decide, rfl⟩ (gd_of (i := 123) (by decide +kernel) rfl) ⟨by decide, by decide⟩ (by decide) ⟨(fun _ _ => rfl), fun _ => trivial⟩ ⟨le_b rfl, le_b rfl⟩ rfl dX9_init_103 ?_
  refine j_putf (pc' := 108) (ty := .array .int) fg_RX9_52 ttX9 rfl (Or.inr ⟨rfl, rfl, rfl⟩) (fun _ => ⟨rfl, rfl⟩) (ce_e (x := .inr (9, [vI 0, vR (some (31, 0)), vR (some (32, 0)), vR (some (33, 0)), vR (some (34, 0)), vR (some (35, 0)), vR (some (36, 0)), vR (some (37, 0)), vI 0, vI 0, vR (some (40, 0)), vR (some (41, 0)), vR (some (42, 0)), vR (some (43, 0)), vR (some (44, 0)), vR none, vR none, vR none, vR none, vR none, vI 0, vR none, vI 0, vR none, vR none, vR none, vR none, vR none, vR none, vR none, vR none, vR none, vI 0, vR none, vR none])) (by simp [up, hth])) (lt_b rfl) rfl dX9_init_105 ?_
  refine j_aload_n (pc' := 109) rfl rfl dX9_init_108 ?_
  refine j_bipush (pc' := 111) (v := 40) rfl rfl dX9_init_109 ?_
  refine j_newa (46, 0) (pc' := 113) (a := 0) (aa := .inl (fun _ => 0)) (N := 40) (by simp [up, hf46]) ⟨by decide, rfl⟩ (gd_of (i := 123) (by decide +kernel) rfl) ⟨by decide, by decide⟩ (by decide) ⟨(fun _ _ => rfl), fun _ => trivial⟩ ⟨le_b rfl, le_b rfl⟩ rfl dX9_init_111 ?_
  refine j_putf (pc' := 116) (ty := .array .int) fg_RX9_55 ttX9 rfl (Or.inr ⟨rfl, rfl, rfl⟩) (fun _ => ⟨rfl, rfl⟩) (ce_e (x := .inr (9, [vI 0, vR (some (31, 0)), vR (some (32, 0)), vR (some (33, 0)), vR (some (34, 0)), vR (some (35, 0)), vR (some (36, 0)), vR (some (37, 0)), vI 0, vI 0, vR (some (40, 0)), vR (some (41, 0)), vR (some (42, 0)), vR (some (43, 0)), vR (some (44, 0)), vR (some (45, 0)), vR none, vR none, vR none, vR none, vI 0, vR none, vI 0, vR none, vR none, vR none, vR none, vR none, vR none, vR none, vR none, vR none, vI 0, vR none, vR none])) (by simp [up, hth])) (lt_b rfl) rfl dX9_init_113 ?_
  refine j_aload_n (pc' := 117) rfl rfl dX9_init_116 ?_
  refine j_bipush (pc' := 119) (v := 40) rfl rfl dX9_init_117 ?_
  refine j_newa (47, 0) (pc' := 121) (a := 0) (aa := .inl (fun _ => 0)) (N := 40) (by simp [up, hf47]) ⟨by decide, rfl⟩ (gd_of (i := 123) (by decide +kernel) rfl) ⟨by decide, by decide⟩ (by decide) ⟨(fun _ _ => rfl), fun _ => trivial⟩ ⟨le_b rfl, le_b rfl⟩ rfl dX9_init_119 ?_
  refine j_putf (pc' := 124) (ty := .array .int) fg_RX9_58 ttX9 rfl (Or.inr ⟨rfl, rfl, rfl⟩) (fun _ => ⟨rfl, rfl⟩) (ce_e (x := .inr (9, [vI 0, vR (some (31, 0)), vR (some (32, 0)), vR (some (33, 0)), vR (some (34, 0)), vR (some (35, 0)), vR (some (36, 0)), vR (some (37, 0)), vI 0, vI 0, vR (some (40, 0)), vR (some (41, 0)), vR (some (42, 0)), vR (some (43, 0)), vR (some (44, 0)), vR (some (45, 0)), vR (some (46, 0)), vR none, vR none, vR none, vI 0, vR none, vI 0, vR none, vR none, vR none, vR none, vR none, vR none, vR none, vR none, vR none, vI 0, vR none, vR none])) (by simp [up, hth])) (lt_b rfl) rfl dX9_init_121 ?_
  refine j_aload_n (pc' := 125) rfl rfl dX9_init_124 ?_
  refine j_bipush (pc' := 127) (v := 40) rfl rfl dX9_init_125 ?_
  refine j_newa (48, 0) (pc' := 129) (a := 1) (aa := .inr (.inl (fun _ => 0))) (N := 40) (by simp [up, hf48]) ⟨by decide, rfl⟩ (gd_of (i := 176) (by decide +kernel) rfl) ⟨by decide, by decide⟩ (by decide) ⟨(fun _ _ => rfl), fun _ => trivial⟩ ⟨le_b rfl, le_b rfl⟩ rfl dX9_init_127 ?_
  refine j_putf (pc' := 132) (ty := .array .long) fg_RX9_61 ttX9 rfl (Or.inr ⟨rfl, rfl, rfl⟩) (fun _ => ⟨rfl, rfl⟩) (ce_e (x := .inr (9, [vI 0, vR (some (31, 0)), vR (some (32, 0)), vR (some (33, 0)), vR (some (34, 0)), vR (some (35, 0)), vR (some (36, 0)), vR (some (37, 0)), vI 0, vI 0, vR (some (40, 0)), vR (some (41, 0)), vR (some (42, 0)), vR (some (43, 0)), vR (some (44, 0)), vR (some (45, 0)), vR (some (46, 0)), vR (some (47, 0)), vR none, vR none, vI 0, vR none, vI 0, vR none, vR none, vR none, vR none, vR none, vR none, vR none, vR none, vR none, vI 0, vR none, vR none])) (by simp [up, hth])) (lt_b rfl) rfl dX9_init_129 ?_
  refine j_aload_n (pc' := 133) rfl rfl dX9_init_132 ?_
  refine j_sipush (pc' := 136) (v := 2400) rfl rfl dX9_init_133 ?_
  refine j_newa (49, 0) (pc' := 138) (a := 0) (aa := .inl (fun _ => 0)) (N := 2400) (by simp [up, hf49]) ⟨by decide, rfl⟩ (gd_of (i := 123) (by decide +kernel) rfl) ⟨by decide, by decide⟩ (by decide) ⟨(fun _ _ => rfl), fun _ => trivial⟩ ⟨le_b rfl, le_b rfl⟩ rfl dX9_init_136 ?_
  refine j_putf (pc' := 141) (ty := .array .int) fg_RX9_64 ttX9 rfl (Or.inr ⟨rfl, rfl, rfl⟩) (fun _ => ⟨rfl, rfl⟩) (ce_e (x := .inr (9, [vI 0, vR (some (31, 0)), vR (some (32, 0)), vR (some (33, 0)), vR (some (34, 0)), vR (some (35, 0)), vR (some (36, 0)), vR (some (37, 0)), vI 0, vI 0, vR (some (40, 0)), vR (some (41, 0)), vR (some (42, 0)), vR (some (43, 0)), vR (some (44, 0)), vR (some (45, 0)), vR (some (46, 0)), vR (some (47, 0)), vR (some (48, 0)), vR none, vI 0, vR none, vI 0, vR none, vR none, vR none, vR none, vR none, vR none, vR none, vR none, vR none, vI 0, vR none, vR none])) (by simp [up, hth])) (lt_b rfl) rfl dX9_init_138 ?_
  refine j_aload_n (pc' := 142) rfl rfl dX9_init_141 ?_
  refine j_bipush (pc' := 144) (v := 16) rfl rfl dX9_init_142 ?_
  refine j_newa (51, 0) (pc' := 146) (a := 0) (aa := .inl (fun _ => 0)) (N := 16) (by simp [up, hf51]) ⟨by decide, rfl⟩ (gd_of (i := 123) (by decide +kernel) rfl) ⟨by decide, by decide⟩ (by decide) ⟨(fun _ _ => rfl), fun _ => trivial⟩ ⟨le_b rfl, le_b rfl⟩ rfl dX9_init_144 ?_
  refine j_putf (pc' := 149) (ty := .array .int) fg_RX9_67 ttX9 rfl (Or.inr ⟨rfl, rfl, rfl⟩) (fun _ => ⟨rfl, rfl⟩) (ce_e (x := .inr (9, [vI 0, vR (some (31, 0)), vR (some (32, 0)), vR (some (33, 0)), vR (some (34, 0)), vR (some (35, 0)), vR (some (36, 0)), vR (some (37, 0)), vI 0, vI 0, vR (some (40, 0)), vR (some (41, 0)), vR (some (42, 0)), vR (some (43, 0)), vR (some (44, 0)), vR (some (45, 0)), vR (some (46, 0)), vR (some (47, 0)), vR (some (48, 0)), vR (some (49, 0)), vI 0, vR none, vI 0, vR none, vR none, vR none, vR none, vR none, vR none, vR none, vR none, vR none, vI 0, vR none, vR none])) (by simp [up, hth])) (lt_b rfl) rfl dX9_init_146 ?_
  refine j_aload_n (pc' := 150) rfl rfl dX9_init_149 ?_
  refine j_iconst (pc' := 151) (v := 5) rfl rfl dX9_init_150 ?_
  refine j_newa (53, 0) (pc' := 153) (a := 0) (aa := .inl (fun _ => 0)) (N := 5) (by simp [up, hf53]) ⟨by decide, rfl⟩ (gd_of (i := 123) (by decide +kernel) rfl) ⟨by decide, by decide⟩ (by decide) ⟨(fun _ _ => rfl), fun _ => trivial⟩ ⟨le_b rfl, le_b rfl⟩ rfl dX9_init_151 ?_
  refine j_putf (pc' := 156) (ty := .array .int) fg_RX9_70 ttX9 rfl (Or.inr ⟨rfl, rfl, rfl⟩) (fun _ => ⟨rfl, rfl⟩) (ce_e (x := .inr (9, [vI 0, vR (some (31, 0)), vR (some (32, 0)), vR (some (33, 0)), vR (some (34, 0)), vR (some (35, 0)), vR (some (36, 0)), vR (some (37, 0)), vI 0, vI 0, vR (some (40, 0)), vR (some (41, 0)), vR (some (42, 0)), vR (some (43, 0)), vR (some (44, 0)), vR (some (45, 0)), vR (some (46, 0)), vR (some (47, 0)), vR (some (48, 0)), vR (some (49, 0)), vI 0, vR (some (51, 0)), vI 0, vR none, vR none, vR none, vR none, vR none, vR none, vR none, vR none, vR none, vI 0, vR none, vR none])) (by simp [up, hth])) (lt_b rfl) rfl dX9_init_153 ?_
  refine j_aload_n (pc' := 157) rfl rfl dX9_init_156 ?_
  refine j_iconst (pc' := 158) (v := 5) rfl rfl dX9_init_157 ?_
  refine j_newa (54, 0) (pc' := 160) (a := 0) (aa := .inl (fun _ => 0)) (N := 5) (by simp [up, hf54]) ⟨by decide, rfl⟩ (gd_of (i := 123) (by decide +kernel) rfl) ⟨by decide, by decide⟩ (by decide) ⟨(fun _ _ => rfl), fun _ => trivial⟩ ⟨le_b rfl, le_b rfl⟩ rfl dX9_init_158 ?_
  refine j_putf (pc' := 163) (ty := .array .int) fg_RX9_73 ttX9 rfl (Or.inr ⟨rfl, rfl, rfl⟩) (fun _ => ⟨rfl, rfl⟩) (ce_e (x := .inr (9, [vI 0, vR (some (31, 0)), vR (some (32, 0)), vR (some (33, 0)), vR (some (34, 0)), vR (some (35, 0)), vR (some (36, 0)), vR (some (37, 0)), vI 0, vI 0, vR (some (40, 0)), vR (some (41, 0)), vR (some (42, 0)), vR (some (43, 0)), vR (some (44, 0)), vR (some (45, 0)), vR (some (46, 0)), vR (some (47, 0)), vR (some (48, 0)), vR (some (49, 0)), vI 0, vR (some (51, 0)), vI 0, vR (some (53, 0)), vR none, vR none, vR none, vR none, vR none, vR none, vR none, vR none, vI 0, vR none, vR none])) (by simp [up, hth])) (lt_b rfl) rfl dX9_init_160 ?_
  refine j_aload_n (pc' := 164) rfl rfl dX9_init_163 ?_
  refine j_bipush (pc' := 166) (v := 40) rfl rfl dX9_init_164 ?_
  refine j_newa (55, 0) (pc' := 168) (a := 2) (aa := .inl (fun _ => 0)) (N := 40) (by simp [up, hf55]) ⟨by decide, rfl⟩ (gd_of (i := 83) (by decide +kernel) rfl) ⟨by decide, by decide⟩ (by decide) ⟨(fun _ _ => rfl), fun _ => trivial⟩ ⟨le_b rfl, le_b rfl⟩ rfl dX9_init_166 ?_
  refine j_putf (pc' := 171) (ty := .array .boolean) fg_RX9_76 ttX9 rfl (Or.inr ⟨rfl, rfl, rfl⟩) (fun _ => ⟨rfl, rfl⟩) (ce_e (x := .inr (9, [vI 0, vR (some (31, 0)), vR (some (32, 0)), vR (some (33, 0)), vR (some (34, 0)), vR (some (35, 0)), vR (some (36, 0)), vR (some (37, 0)), vI 0, vI 0, vR (some (40, 0)), vR (some (41, 0)), vR (some (42, 0)), vR (some (43, 0)), vR (some (44, 0)), vR (some (45, 0)), vR (some (46, 0)), vR (some (47, 0)), vR (some (48, 0)), vR (some (49, 0)), vI 0, vR (some (51, 0)), vI 0, vR (some (53, 0)), vR (some (54, 0)), vR none, vR none, vR none, vR none, vR none, vR none, vR none, vI 0, vR none, vR none])) (by simp [up, hth])) (lt_b rfl) rfl dX9_init_168 ?_
  refine j_aload_n (pc' := 172) rfl rfl dX9_init_171 ?_
  refine j_bipush (pc' := 174) (v := 40) rfl rfl dX9_init_172 ?_
  refine j_newa (56, 0) (pc' := 176) (a := 2) (aa := .inl (fun _ => 0)) (N := 40) (by simp [up, hf56]) ⟨by decide, rfl⟩ (gd_of (i := 83) (by decide +kernel) rfl) ⟨by decide, by decide⟩ (by decide) ⟨(fun _ _ => rfl), fun _ => trivial⟩ ⟨le_b rfl, le_b rfl⟩ rfl dX9_init_174 ?_
  refine j_putf (pc' := 179) (ty := .array .boolean) fg_RX9_79 ttX9 rfl (Or.inr ⟨rfl, rfl, rfl⟩) (fun _ => ⟨rfl, rfl⟩) (ce_e (x := .inr (9, [vI 0, vR (some (31, 0)), vR (some (32, 0)), vR (some (33, 0)), vR (some (34, 0)), vR (some (35, 0)), vR (some (36, 0)), vR (some (37, 0)), vI 0, vI 0, vR (some (40, 0)), vR (some (41, 0)), vR (some (42, 0)), vR (some (43, 0)), vR (some (44, 0)), vR (some (45, 0)), vR (some (46, 0)), vR (some (47, 0)), vR (some (48, 0)), vR (some (49, 0)), vI 0, vR (some (51, 0)), vI 0, vR (some (53, 0)), vR (some (54, 0)), vR (some (55, 0)), vR none, vR none, vR none, vR none, vR none, vR none, vI 0, vR none, vR none])) (by simp [up, hth])) (lt_b rfl) rfl dX9_init_176 ?_
  refine j_aload_n (pc' := 180) rfl rfl dX9_init_179 ?_
  refine j_sipush (pc' := 183) (v := 300) rfl rfl dX9_init_180 ?_
  refine j_newa (57, 0) (pc' := 185) (a := 0) (aa := .inl (fun _ => 0)) (N := 300) (by simp [up, hf57]) ⟨by decide, rfl⟩ (gd_of (i := 123) (by decide +kernel) rfl) ⟨by decide, by decide⟩ (by decide) ⟨(fun _ _ => rfl), fun _ => trivial⟩ ⟨le_b rfl, le_b rfl⟩ rfl dX9_init_183 ?_
  refine j_putf (pc' := 188) (ty := .array .int) fg_RX9_82 ttX9 rfl (Or.inr ⟨rfl, rfl, rfl⟩) (fun _ => ⟨rfl, rfl⟩) (ce_e (x := .inr (9, [vI 0, vR (some (31, 0)), vR (some (32, 0)), vR (some (33, 0)), vR (some (34, 0)), vR (some (35, 0)), vR (some (36, 0)), vR (some (37, 0)), vI 0, vI 0, vR (some (40, 0)), vR (some (41, 0)), vR (some (42, 0)), vR (some (43, 0)), vR (some (44, 0)), vR (some (45, 0)), vR (some (46, 0)), vR (some (47, 0)), vR (some (48, 0)), vR (some (49, 0)), vI 0, vR (some (51, 0)), vI 0, vR (some (53, 0)), vR (some (54, 0)), vR (some (55, 0)), vR (some (56, 0)), vR none, vR none, vR none, vR none, vR none, vI 0, vR none, vR none])) (by simp [up, hth])) (lt_b rfl) rfl dX9_init_185 ?_
  refine j_aload_n (pc' := 189) rfl rfl dX9_init_188 ?_
  refine j_bipush (pc' := 191) (v := 8) rfl rfl dX9_init_189 ?_
  refine j_newa (58, 0) (pc' := 193) (a := 0) (aa := .inl (fun _ => 0)) (N := 8) (by simp [up, hf58]) ⟨by decide, rfl⟩ (gd_of (i := 123) (by decide +kernel) rfl) ⟨by decide, by decide⟩ (by decide) ⟨(fun _ _ => rfl), fun _ => trivial⟩ ⟨le_b rfl, le_b rfl⟩ rfl dX9_init_191 ?_
  refine j_putf (pc' := 196) (ty := .array .int) fg_RX9_85 ttX9 rfl (Or.inr ⟨rfl, rfl, rfl⟩) (fun _ => ⟨rfl, rfl⟩) (ce_e (x := .inr (9, [vI 0, vR (some (31, 0)), vR (some (32, 0)), vR (some (33, 0)), vR (some (34, 0)), vR (some (35, 0)), vR (some (36, 0)), vR (some (37, 0)), vI 0, vI 0, vR (some (40, 0)), vR (some (41, 0)), vR (some (42, 0)), vR (some (43, 0)), vR (some (44, 0)), vR (some (45, 0)), vR (some (46, 0)), vR (some (47, 0)), vR (some (48, 0)), vR (some (49, 0)), vI 0, vR (some (51, 0)), vI 0, vR (some (53, 0)), vR (some (54, 0)), vR (some (55, 0)), vR (some (56, 0)), vR (some (57, 0)), vR none, vR none, vR none, vR none, vI 0, vR none, vR none])) (by simp [up, hth])) (lt_b rfl) rfl dX9_init_193 ?_
  refine j_aload_n (pc' := 197) rfl rfl dX9_init_196 ?_
  refine j_bipush (pc' := 199) (v := 8) rfl rfl dX9_init_197 ?_
  refine j_newa (59, 0) (pc' := 201) (a := 0) (aa := .inl (fun _ => 0)) (N := 8) (by simp [up, hf59]) ⟨by decide, rfl⟩ (gd_of (i := 123) (by decide +kernel) rfl) ⟨by decide, by decide⟩ (by decide) ⟨(fun _ _ => rfl), fun _ => trivial⟩ ⟨le_b rfl, le_b rfl⟩ rfl dX9_init_199 ?_
  refine j_putf (pc' := 204) (ty := .array .int) fg_RX9_88 ttX9 rfl (Or.inr ⟨rfl, rfl, rfl⟩) (fun _ => ⟨rfl, rfl⟩) (ce_e (x := .inr (9, [vI 0, vR (some (31, 0)), vR (some (32, 0)), vR (some (33, 0)), vR (some (34, 0)), vR (some (35, 0)), vR (some (36, 0)), vR (some (37, 0)), vI 0, vI 0, vR (some (40, 0)), vR (some (41, 0)), vR (some (42, 0)), vR (some (43, 0)), vR (some (44, 0)), vR (some (45, 0)), vR (some (46, 0)), vR (some (47, 0)), vR (some (48, 0)), vR (some (49, 0)), vI 0, vR (some (51, 0)), vI 0, vR (some (53, 0)), vR (some (54, 0)), vR (some (55, 0)), vR (some (56, 0)), vR (some (57, 0)), vR (some (58, 0)), vR none, vR none, vR none, vI 0, vR none, vR none])) (by simp [up, hth])) (lt_b rfl) rfl dX9_init_201 ?_
  refine j_aload_n (pc' := 205) rfl rfl dX9_init_204 ?_
  refine j_bipush (pc' := 207) (v := 8) rfl rfl dX9_init_205 ?_
  refine j_newa (60, 0) (pc' := 209) (a := 0) (aa := .inl (fun _ => 0)) (N := 8) (by simp [up, hf60]) ⟨by decide, rfl⟩ (gd_of (i := 123) (by decide +kernel) rfl) ⟨by decide, by decide⟩ (by decide) ⟨(fun _ _ => rfl), fun _ => trivial⟩ ⟨le_b rfl, le_b rfl⟩ rfl dX9_init_207 ?_
  refine j_putf (pc' := 212) (ty := .array .int) fg_RX9_91 ttX9 rfl (Or.inr ⟨rfl, rfl, rfl⟩) (fun _ => ⟨rfl, rfl⟩) (ce_e (x := .inr (9, [vI 0, vR (some (31, 0)), vR (some (32, 0)), vR (some (33, 0)), vR (some (34, 0)), vR (some (35, 0)), vR (some (36, 0)), vR (some (37, 0)), vI 0, vI 0, vR (some (40, 0)), vR (some (41, 0)), vR (some (42, 0)), vR (some (43, 0)), vR (some (44, 0)), vR (some (45, 0)), vR (some (46, 0)), vR (some (47, 0)), vR (some (48, 0)), vR (some (49, 0)), vI 0, vR (some (51, 0)), vI 0, vR (some (53, 0)), vR (some (54, 0)), vR (some (55, 0)), vR (some (56, 0)), vR (some (57, 0)), vR (some (58, 0)), vR (some (59, 0)), vR none, vR none, vI 0, vR none, vR none])) (by simp [up, hth])) (lt_b rfl) rfl dX9_init_209 ?_
  refine j_aload_n (pc' := 213) rfl rfl dX9_init_212 ?_
  refine j_bipush (pc' := 215) (v := 8) rfl rfl dX9_init_213 ?_
  refine j_newa (61, 0) (pc' := 217) (a := 2) (aa := .inl (fun _ => 0)) (N := 8) (by simp [up, hf61]) ⟨by decide, rfl⟩ (gd_of (i := 83) (by decide +kernel) rfl) ⟨by decide, by decide⟩ (by decide) ⟨(fun _ _ => rfl), fun _ => trivial⟩ ⟨le_b rfl, le_b rfl⟩ rfl dX9_init_215 ?_
  refine j_putf (pc' := 220) (ty := .array .boolean) fg_RX9_94 ttX9 rfl (Or.inr ⟨rfl, rfl, rfl⟩) (fun _ => ⟨rfl, rfl⟩) (ce_e (x := .inr (9, [vI 0, vR (some (31, 0)), vR (some (32, 0)), vR (some (33, 0)), vR (some (34, 0)), vR (some (35, 0)), vR (some (36, 0)), vR (some (37, 0)), vI 0, vI 0, vR (some (40, 0)), vR (some (41, 0)), vR (some (42, 0)), vR (some (43, 0)), vR (some (44, 0)), vR (some (45, 0)), vR (some (46, 0)), vR (some (47, 0)), vR (some (48, 0)), vR (some (49, 0)), vI 0, vR (some (51, 0)), vI 0, vR (some (53, 0)), vR (some (54, 0)), vR (some (55, 0)), vR (some (56, 0)), vR (some (57, 0)), vR (some (58, 0)), vR (some (59, 0)), vR (some (60, 0)), vR none, vI 0, vR none, vR none])) (by simp [up, hth])) (lt_b rfl) rfl dX9_init_217 ?_
  refine j_aload_n (pc' := 221) rfl rfl dX9_init_220 ?_
  refine j_bipush (pc' := 223) (v := 61) rfl rfl dX9_init_221 ?_
  refine j_newa (63, 0) (pc' := 225) (a := 1) (aa := .inr (.inl (fun _ => 0))) (N := 61) (by simp [up, hf63]) ⟨by decide, rfl⟩ (gd_of (i := 176) (by decide +kernel) rfl) ⟨by decide, by decide⟩ (by decide) ⟨(fun _ _ => rfl), fun _ => trivial⟩ ⟨le_b rfl, le_b rfl⟩ rfl dX9_init_223 ?_
  refine j_putf (pc' := 228) (ty := .array .long) fg_RX9_97 ttX9 rfl (Or.inr ⟨rfl, rfl, rfl⟩) (fun _ => ⟨rfl, rfl⟩) (ce_e (x := .inr (9, [vI 0, vR (some (31, 0)), vR (some (32, 0)), vR (some (33, 0)), vR (some (34, 0)), vR (some (35, 0)), vR (some (36, 0)), vR (some (37, 0)), vI 0, vI 0, vR (some (40, 0)), vR (some (41, 0)), vR (some (42, 0)), vR (some (43, 0)), vR (some (44, 0)), vR (some (45, 0)), vR (some (46, 0)), vR (some (47, 0)), vR (some (48, 0)), vR (some (49, 0)), vI 0, vR (some (51, 0)), vI 0, vR (some (53, 0)), vR (some (54, 0)), vR (some (55, 0)), vR (some (56, 0)), vR (some (57, 0)), vR (some (58, 0)), vR (some (59, 0)), vR (some (60, 0)), vR (some (61, 0)), vI 0, vR none, vR none])) (by simp [up, hth])) (lt_b rfl) rfl dX9_init_225 ?_
  refine j_aload_n (pc' := 229) rfl rfl dX9_init_228 ?_
  refine j_bipush (pc' := 231) (v := 61) rfl rfl dX9_init_229 ?_
  refine j_newa (64, 0) (pc' := 233) (a := 0) (aa := .inl (fun _ => 0)) (N := 61) (by simp [up, hf64]) ⟨by decide, rfl⟩ (gd_of (i := 123) (by decide +kernel) rfl) ⟨by decide, by decide⟩ (by decide) ⟨(fun _ _ => rfl), fun _ => trivial⟩ ⟨le_b rfl, le_b rfl⟩ rfl dX9_init_231 ?_
  refine j_putf (pc' := 236) (ty := .array .int) fg_RX9_100 ttX9 rfl (Or.inr ⟨rfl, rfl, rfl⟩) (fun _ => ⟨rfl, rfl⟩) (ce_e (x := .inr (9, [vI 0, vR (some (31, 0)), vR (some (32, 0)), vR (some (33, 0)), vR (some (34, 0)), vR (some (35, 0)), vR (some (36, 0)), vR (some (37, 0)), vI 0, vI 0, vR (some (40, 0)), vR (some (41, 0)), vR (some (42, 0)), vR (some (43, 0)), vR (some (44, 0)), vR (some (45, 0)), vR (some (46, 0)), vR (some (47, 0)), vR (some (48, 0)), vR (some (49, 0)), vI 0, vR (some (51, 0)), vI 0, vR (some (53, 0)), vR (some (54, 0)), vR (some (55, 0)), vR (some (56, 0)), vR (some (57, 0)), vR (some (58, 0)), vR (some (59, 0)), vR (some (60, 0)), vR (some (61, 0)), vI 0, vR (some (63, 0)), vR none])) (by simp [up, hth])) (lt_b rfl) rfl dX9_init_233 ?_
  exact mloop_0 (h := CM_arr h) (by simp [CM_arr, up]) (by simp [CM_arr, up]) (by simp [CM_arr, up]) ⟨rfl, rfl⟩
end CTOR
