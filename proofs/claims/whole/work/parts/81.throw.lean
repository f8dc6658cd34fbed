section THROW
variable {l : Launch} {D : va_G} {dA : Nat → ClassId} {H0 : Heap} {h0 : Hx} {Po : Option AV → Hp → Prop}
/-- what a throw needs of the start: Throwable's statics, the two texts -/
def XK (H0 : Heap) (U : State) : Prop := vx_Zq Bundle.tN "UNASSIGNED_STACK" Bundle.steD (fun q => H0.size ≤ q) U H0 ∧ vx_Zq Bundle.tN "SUPPRESSED_SENTINEL" Bundle.listD (fun q => H0.size ≤ q) U H0 ∧ (∃ sa, vk_R RX8 181 "no such promise" sa U) ∧ ∃ sa, vk_R RX8 203 "nothing such is told of a promise" sa U
theorem XK.warm {s U : State} (hW : s.WarmedH U.vm) (h : XK H0 s) : XK H0 U := by
  obtain ⟨h1, h2, ⟨a, h3⟩, b, h4⟩ := h
  exact ⟨vx_Zq.moved hW.alike h1, vx_Zq.moved hW.alike h2, ⟨a, vk_R.warm hW h3⟩, b, vk_R.warm hW h4⟩
theorem XK.same {u U : State} (e : u.vm = U.vm) (h : XK H0 u) : XK H0 U := by
  have hA : u.vm.Alike U.vm := by rw [e]; exact Vm.Alike.refl _
  obtain ⟨h1, h2, ⟨a, h3⟩, b, h4⟩ := h
  exact ⟨vx_Zq.moved hA h1, vx_Zq.moved hA h2, ⟨a, vk_R.same e.symm h3⟩, b, vk_R.same e.symm h4⟩
def XPt (l : Launch) (H0 : Heap) (s : State) (c : Code) : Prop := (∀ x ∈ c.exceptionTable.toList, False) ∧ XK H0 s ∧ l.stackTraces = false ∧ H0.size ≤ s.heap.size ∧ ∀ a, a < H0.size → s.heap[a]? = H0[a]?
def YXt (l : Launch) (H0 : Heap) : YY := (cX8_promised, 4, RX8, some .long, { frames := 7, cells := 1, slots := 6, locals := 100 }, false, XPt l H0, [])
theorem xt_places : ((xt_words RX8 183).filter vx_no).filter goodWord = ([54, 798, 807, 809, 812, 814, 799, 800, 66, 67, 801, 806, 810, 830, 788, 831, 790, 832, 792, 802, 804, 794, 826, 827, 829, 794, 817, 818, 819, 820, 820, 821, 822, 823, 823, 824, 825, 826, 816, 777, 785, 786, 787, 789, 791, 793, 797, 796, 795] : List Nat).filterMap (fun i => lw_tbl[i]?) := by decide +kernel
theorem xt_good : ∀ w ∈ ((xt_words RX8 183).filter vx_no).filter goodWord, w ∈ lw_tbl := by
  rw [xt_places]
  intro w hw
  obtain ⟨i, -, hi⟩ := List.mem_filterMap.mp hw
  exact List.mem_of_getElem? hi
theorem xt_rest : ∀ w ∈ ((xt_words RX8 183).filter vx_no).filter (fun w => !goodWord w), w ∈ lw_nw := by decide +kernel
theorem xt_ot : ∀ w ∈ Cond.classLink RX8 179 NSE :: Cond.initialized NSE :: (xt_words RX8 183).filter vx_no, vx_ot w = true := by decide +kernel
theorem xt_k : Cond.classLink RX8 179 NSE ∈ lw_gd := gd_of (i := 776) (by decide +kernel) rfl
theorem xt_i : Cond.initialized NSE ∈ lw_gd := gd_of (i := 57) (by decide +kernel) rfl
theorem nw_on {w : Cond} (h : w ∈ lw_nw) : w.onTables = true := by
  have h2 := (List.mem_filter.mp h).2
  cases w with
  | fieldLinkNest => rfl
  | methodLinkNest => rfl
  | castable => rfl
  | declares => rfl
  | _ => cases h2
theorem j_throw {h : Hp} {pc : Nat} {lo : List (Option AV)} {is : Nat} {text : String} (hstr : ∀ U, XK H0 U → ∃ sa, vk_R RX8 is text sa U) (d0 : decode cX8_promised pc = .ok (.new 179, 3)) (d3 : decode cX8_promised (pc + 3) = .ok (.dup, 1)) (d4 : decode cX8_promised (pc + 4) = .ok (.ldc is, 2)) (d6 : decode cX8_promised (pc + 6) = .ok (.invokespecial 183, 3)) (d9 : decode cX8_promised (pc + 9) = .ok (.athrow, 1)) (hP : h0.2 NSE h) : J l D dA H0 (YXt l H0) h0 Po 0 0 h pc lo [] := by
  intro p e s m args below meth c hC ad0 ad H locs ls hR hG hlc hL hS hl
  obtain ⟨t1, t2, t3, t4, t5⟩ := hC.2.2.2.2.2.2.2.2.2
  have hts := hC.2.2.2.2.1
  have hK := hC.2.2.2.2.2.2.2.1
  obtain ⟨sa, hsa⟩ := hstr s t2
  intro T hT X
  have hz : s.heap.size ≤ H.size := by rw [← hT]; exact X.heapGrown
  refine xt_throw (A := fun q => H0.size ≤ q) (text := text) (sa := sa) (mc := 1) (ms := 6) hC.1 hC.2.1 t3 hC.2.2.2.1 (hts _ xt_k) (hts _ xt_i) hsa ?_ xt_ot (t2.1.kept (fun a ha _ => t5 a ha)) (t2.2.1.kept (fun a ha _ => t5 a ha)) ⟨hz, fun q hq hn => ?_, hlc⟩ (by rw [hC.2.2.1]; exact hl.1) d0 d3 d4 d6 d9 (fun x hx => (t1 x hx).elim) (lt_b rfl) (le_b rfl) (le_b rfl) (le_b rfl) hC.2.2.2.2.2.2.1 (fun t _ hz1 ho1 => ⟨ad, h, hP, hR.kept hz1 ho1, hG⟩) hlc (le_b rfl) (le_b rfl) T hT X
  · refine vx_hat (B := lw_nw) (fun w hw => hts w (List.mem_filter.mpr ⟨xt_good w hw, (List.mem_filter.mp hw).2⟩)) xt_rest (fun w hw => va_Nw.use (nw_on hw) (hK.2.1 w hw))
  · have hq2 : q < H0.size := Nat.not_le.mp hn
    rw [t5 q hq2]
    exact hR.2.2.2.2 q hq2
/-- the contract of a method that may throw -/
def MX (l : Launch) (D : va_G) (dA : Nat → ClassId) (H0 : Heap) (yn : MethodName) (y : YY) (as : List AV) (h : Hp) (Po : Option AV → Hp → Prop) (PX : String → Hp → Prop) : Prop :=
  ∀ ad0 : Hd → Nat, vx_Met l yn (Cond.code yn y.1 y.2.1 y.2.2.2.1 :: lw_gd) y.2.2.2.2.1 (fun a U => a = (as.map (cv ad0)).toArray ∧ Rp D dA H0 ad0 h U.heap ∧ okS h as ∧ KK D dA U ∧ XK H0 U) (QQ D dA H0 h ad0 Po) (XX D dA H0 h ad0 PX) y.2.2.2.2.1.cells y.2.2.2.2.1.slots (fun a => H0.size ≤ a)
theorem mx_of {h : Hp} {PX : String → Hp → Prop} {as : List AV} {j : Nat} (hl : l.stackTraces = false) (hw : wds as ≤ 4) (kk : J l D dA H0 (YXt l H0) (h, PX) Po 0 0 h 0 (ent as ++ List.replicate j none) []) : MX l D dA H0 yX8_promised (YXt l H0) as h Po PX := by
  intro ad0
  refine vx_ofW (cc := cX8_promised) (maxL := 4) (ret := some .long) (by decide) rfl ?_
  intro p e s m args below meth c s₁ B hml htab hv
  obtain ⟨rfl, hR, hS, hK, hX⟩ := hv
  have hts := atoms_spec (ws := Cond.code yX8_promised cX8_promised 4 (some .long) :: lw_gd) B.pre
  have hC : MC D dA (YXt l H0) p s m (as.map (cv ad0)).toArray meth c := ⟨B.exec, B.bytes, hml, findClass_of_methodNamed B.named, fun w hw => hts w (List.mem_cons_of_mem _ hw), B.returns, B.notSynchronized, hK, (fun hh => by cases hh), htab, hX, hl, hR.2.2.2.1, hR.2.2.2.2⟩
  have hlv := lv_entry (as.map (cv ad0)) (n := 4) (by rw [sl_len]; exact hw)
  rw [lg_entry_eq]
  exact kk p e s m _ below meth c hC ad0 ad0 s.heap [] _ hR Gr.rf (fun _ h => by cases h) (fun v hv => by
    rcases List.mem_append.mp hv with hv | hv
    · exact hS v (ent_mem as hv)
    · cases List.eq_of_mem_replicate hv) (fun _ h => by cases h) (by rw [pr_pad, ent_pr]; exact hlv)
/-- promised throws: there is no such promise, or nothing such is told -/
theorem LG_promised_x {σ : Mem} {q w : Int32} {o : Option Nat} (hl : l.stackTraces = false) (ha : kB_at σ q = some (o, σ)) (hx : o = none ∨ (w.toInt < 0 ∨ 8 < w.toInt)) : MX l D dA H0 yX8_promised (YXt l H0) [vR (some (1, 0)), vI q, vI w] (hp σ) (fun _ _ => False) (fun E h' => E = NSE ∧ h' = hp σ) := by
  refine mx_of (j := 1) hl (le_b rfl) ?_
  refine j_aload_n (pc' := 1) rfl rfl dX8_promised_0 ?_
  refine j_getf (pc' := 4) fg_RX8_19 (hp_e rfl) rfl rfl dX8_promised_1 ?_
  refine j_iload_n (pc' := 5) rfl rfl dX8_promised_4 ?_
  refine j_cv1 (pc' := 8) (LB_at ha) cv_RX8_140 ⟨le_b rfl, le_b rfl⟩ (hp_e rfl) rfl rfl (le_b rfl) ⟨rfl, rfl⟩ ⟨le_b rfl, le_b rfl⟩ rfl rfl dX8_promised_5 ?_
  refine j_astore_n (pc' := 9) (lt_b rfl) rfl rfl dX8_promised_8 ?_
  refine j_aload_n (pc' := 10) rfl rfl dX8_promised_9 ?_
  cases o with
  | none =>
    refine j_ifnonnull (pc' := 13) (tg := 23) rfl rfl dX8_promised_10 (fun _ hh => by cases hh) (fun _ => ?_)
    exact j_throw (is := 181) (fun U hU => hU.2.2.1) dX8_promised_13 dX8_promised_16 dX8_promised_17 dX8_promised_19 dX8_promised_22 ⟨rfl, rfl⟩
  | some j =>
    refine j_ifnonnull (pc' := 13) (tg := 23) rfl rfl dX8_promised_10 (fun _ _ => ?_) (fun hh => by cases hh)
    refine j_iload_n (pc' := 24) rfl rfl dX8_promised_23 ?_
    refine j_tout (tg := 138) (hx.resolve_left (fun h => by cases h)) rfl dX8_promised_24 ?_
    exact j_throw (is := 203) (fun U hU => hU.2.2.2) dX8_promised_138 dX8_promised_141 dX8_promised_142 dX8_promised_144 dX8_promised_147 ⟨rfl, rfl⟩
/-! the law's own method 'promised' -/
def XPl (l : Launch) (H0 : Heap) (s : State) (c : Code) : Prop := c.exceptionTable.toList = tableOf [(0, 9, 12, 13)] ∧ XK H0 s ∧ l.stackTraces = false
def YLp (l : Launch) (H0 : Heap) : YY := (cL_promised, 5, RL, some .int, { frames := 9, cells := 1, slots := 6, locals := 160 }, false, XPl l H0, [])
/-- its contract -/
def ML (l : Launch) (D : va_G) (dA : Nat → ClassId) (H0 : Heap) (as : List AV) (h : Hp) (Po : Option AV → Hp → Prop) : Prop :=
  ∀ ad0 : Hd → Nat, Met l yL_promised (Cond.codeWith yL_promised cL_promised 5 (some .int) [(0, 9, 12, 13)] :: lw_gd) (YLp l H0).2.2.2.2.1 (fun a U => a = (as.map (cv ad0)).toArray ∧ Rp D dA H0 ad0 h U.heap ∧ okS h as ∧ KK D dA U ∧ XK H0 U) (QQ D dA H0 h ad0 Po) 1 6 (fun a => H0.size ≤ a)
theorem ml_of {h : Hp} {as : List AV} {j : Nat} (hl : l.stackTraces = false) (hw : wds as ≤ 5) (kk : J l D dA H0 (YLp l H0) (nx h) Po 0 0 h 0 (ent as ++ List.replicate j none) []) : ML l D dA H0 as h Po := by
  intro ad0
  refine va_MetW (cc := cL_promised) (maxL := 5) (ret := some .int) (hh := [(0, 9, 12, 13)]) (by decide) rfl ?_
  intro p e s m args below meth c s₁ B hml hv
  obtain ⟨rfl, hR, hS, hK, hX⟩ := hv
  have hts := atoms_spec (ws := Cond.codeWith yL_promised cL_promised 5 (some .int) [(0, 9, 12, 13)] :: lw_gd) B.pre
  have hC : MC D dA (YLp l H0) p s m (as.map (cv ad0)).toArray meth c := ⟨B.exec, B.bytes, hml, findClass_of_methodNamed B.named, fun w hw => hts w (List.mem_cons_of_mem _ hw), B.returns, B.notSynchronized, hK, (fun hh => by cases hh), vx_table (x := yL_promised) B (hts _ List.mem_cons_self), hX, hl⟩
  have hlv := lv_entry (as.map (cv ad0)) (n := 5) (by rw [sl_len]; exact hw)
  rw [lg_entry_eq]
  exact mq_of (kk p e s m _ below meth c hC ad0 ad0 s.heap [] _ hR Gr.rf (fun _ h => by cases h) (fun v hv => by
    rcases List.mem_append.mp hv with hv | hv
    · exact hS v (ent_mem as hv)
    · cases List.eq_of_mem_replicate hv) (fun _ h => by cases h) (by rw [pr_pad, ent_pr]; exact hlv))
set_option maxRecDepth 100000 in
theorem cv_RL_7 : CV RL 7 yX8_promised YG_promised 2 := ⟨⟨Or.inl (gd_of (i := 772) (by decide +kernel) rfl), gd_of (i := 42) (by decide +kernel) rfl, gd_of (i := 775) rfl rfl, by decide, by decide, by decide +kernel⟩, gd_of (i := 773) (by decide +kernel) rfl, gd_of (i := 774) (by decide +kernel) rfl⟩
/-- promised answers: the law's method puts it into the row and answers 0 -/
theorem LL_ok {σ σ' : Mem} {q w : Int32} {r : Int64} (hl : l.stackTraces = false) (hk : kG_promised σ q w = some (r, σ')) : ML l D dA H0 [vR (some (1, 0)), vI q, vI w, vR (some (0, 0))] (hp σ) (fun x h' => x = some (vI 0) ∧ h' = hp (sL σ' 0 0 0 r)) := by
  refine ml_of (j := 1) hl (le_b rfl) ?_
  refine j_aload_n (pc' := 1) rfl rfl dL_promised_0 ?_
  refine j_iconst (pc' := 2) (v := 0) rfl rfl dL_promised_1 ?_
  refine j_aload_n (pc' := 3) rfl rfl dL_promised_2 ?_
  refine j_iload_n (pc' := 4) rfl rfl dL_promised_3 ?_
  refine j_iload_n (pc' := 5) rfl rfl dL_promised_4 ?_
  refine j_cv1 (pc' := 8) (LG_promised hk) cv_RL_7 ⟨le_b rfl, le_b rfl⟩ (hp_e rfl) rfl rfl (le_b rfl) ⟨rfl, rfl⟩ ⟨le_b rfl, le_b rfl⟩ rfl rfl dL_promised_5 ?_
  refine j_sl (pc' := 9) (fun _ _ _ => rfl) (show vp_in 0 1 by unfold vp_in; decide) rfl dL_promised_8 ?_
  refine j_goto (tg := 16) rfl dL_promised_9 ?_
  refine j_iconst (pc' := 17) (v := 0) rfl rfl dL_promised_16 ?_
  refine j_wide (k' := 1) (n' := 6) (le_b rfl) (le_b rfl) ?_
  exact j_iret rfl ⟨rfl, rfl⟩ dL_promised_17 ⟨rfl, rfl⟩
theorem pcx_blind {h : Hp} {as : List AV} {ad : Hd → Nat} : FrameBlind (fun a U => a = (as.map (cv ad)).toArray ∧ Rp D dA H0 ad h U.heap ∧ okS h as ∧ KK D dA U ∧ XK H0 U) := fun a U g mk hq => ⟨hq.1, hq.2.1, hq.2.2.1, KK.same (u := U) (U := U.calling g mk a) rfl hq.2.2.2.1, XK.same (u := U) (U := U.calling g mk a) rfl hq.2.2.2.2⟩
/-- promised throws: the law's method catches it and answers 1 -/
theorem LL_throw {σ : Mem} {q w : Int32} (hl : l.stackTraces = false) (hM : ∀ ad0 : Hd → Nat, MX l D dA H0 yX8_promised (YXt l H0) [vR (some (1, 0)), vI q, vI w] (hp σ) (fun _ _ => False) (fun E h' => E = NSE ∧ h' = hp σ)) : ML l D dA H0 [vR (some (1, 0)), vI q, vI w, vR (some (0, 0))] (hp σ) (fun x h' => x = some (vI 1) ∧ h' = hp σ) := by
  refine ml_of (j := 1) hl (le_b rfl) ?_
  refine j_aload_n (pc' := 1) rfl rfl dL_promised_0 ?_
  refine j_iconst (pc' := 2) (v := 0) rfl rfl dL_promised_1 ?_
  refine j_aload_n (pc' := 3) rfl rfl dL_promised_2 ?_
  refine j_iload_n (pc' := 4) rfl rfl dL_promised_3 ?_
  refine j_iload_n (pc' := 5) rfl rfl dL_promised_4 ?_
  intro p e s m args below meth c hC ad0 ad H locs ls hR hG hlc hL hS hlv
  obtain ⟨t1, t2, -⟩ := hC.2.2.2.2.2.2.2.2.2
  have hts := hC.2.2.2.2.1
  have hK := hC.2.2.2.2.2.2.2.1
  obtain ⟨⟨c1, c2, c3, c4⟩, c5, c6⟩ := cv_RL_7
  have c1 := c1.resolve_right (by decide +kernel)
  have hqs : okV (hp σ) (vR (some (1, 0))) := hS _ (List.mem_cons_of_mem _ (List.mem_cons_of_mem _ List.mem_cons_self))
  obtain ⟨x, hx⟩ := ne_some (show hp σ (1, 0) ≠ none from hqs)
  have hxe := hp_e (σ := σ) (t := 1) (i := 0) rfl x hx
  have hPr : ∀ U : State, U.heap = H → s.WarmedH U.vm → (fun a U => a = (([vR (some (1, 0)), vI q, vI w] : List AV).map (cv ad)).toArray ∧ Rp D dA H0 ad (hp σ) U.heap ∧ okS (hp σ) [vR (some (1, 0)), vI q, vI w] ∧ KK D dA U ∧ XK H0 U) (Value.ref (ad (1, 0)) :: [.int q, .int w]).toArray U := fun U hU hW => ⟨rfl, by rw [hU]; exact hR, okS_c hqs (okS_c trivial (okS_c trivial (fun _ h => by cases h))), KK.warm hW hK, XK.warm hW t2⟩
  have hrecv : ∃ cellB : Cell, H[ad (1, 0)]? = some cellB ∧ cellB.vm.isStatics = false ∧ s.vm.findClass RX8 = some cellB.cls := by
    rw [hxe] at hx
    obtain ⟨r, h1, cell, q1, q2, q3, q4⟩ := (hR.1 (1, 0) _ hx).1
    cases h1
    exact ⟨cell, q1, by rw [q3]; rfl, by rw [q2]; exact (hK.1.1.1 8 _ rfl).2.1⟩
  have hrun := vx_runV (R := (YLp l H0).2.2.2.2.1) (C := RX8) (H := H) (locs := locs) (cells := 0) (slots := 0) (g := F0 m 5 ls (.int w :: .int q :: .ref (ad (1, 0)) :: .int 0 :: .ref (ad (0, 0)) :: [])) (As := [.int q, .int w]) (rest := [.int 0, .ref (ad (0, 0))]) (p := p) (e := e) (below := below) (meth := meth) (b := ad (1, 0)) ⟨hC.1, hC.2.1, hC.2.2.1, hC.2.2.2.1, hts⟩ (hM ad ad) ⟨callB_of 2 hts (good_ws (Y := YXt l H0) c3) rfl rfl rfl (hts _ c2) (hts _ c1) c4 ⟨le_b rfl, le_b rfl⟩, hts _ c5, hts _ c6⟩ ⟨pcx_blind, hrecv, hPr⟩ rfl rfl hlv.1 rfl (lv_room (le_b rfl)) dL_promised_5 ⟨le_b rfl, le_b rfl⟩
  intro T hT X
  rcases hrun T hT X with ⟨v, st₀, t, T', L, e0, X', hL', e1, e2, ⟨ad', r, h', hv, hp', _⟩, stp⟩ | hthr
  · exact hp'.elim
  · obtain ⟨q9, st₀, t, T', L, E, ce, e0, X', hL9, e1, e2, ⟨ad', h', ⟨rfl, rfl⟩, hR', hG'⟩, hce, hcv, hcl, stp⟩ := hthr
    have hJ : J l D dA H0 (YLp l H0) (nx (hp σ)) (fun x h' => x = some (vI 1) ∧ h' = hp σ) 1 6 (hp σ) 14 [] [] := j_iconst (pc' := 15) (v := 1) rfl rfl dL_promised_14 (j_iret rfl ⟨rfl, rfl⟩ dL_promised_15 ⟨rfl, rfl⟩)
    have hc2 : (Cond.castable NSE NSE).before args s = true := va_Nw.use rfl (hK.2.1 _ (nw_of (i := 778) (by decide +kernel) rfl))
    have hend := vx_catch (p := p) (l := l) (e := e) (R := (YLp l H0).2.2.2.2.1) (s := s) (m := m) (args := args) (below := below) (meth := meth) (c := c) (H := T'.heap) (locs := locs ++ L) (cells := 1) (slots := 6) (Q := vx_MQ below (QQ D dA H0 (hp σ) ad0 (fun x h' => x = some (vI 1) ∧ h' = hp σ)) (XX D dA H0 (hp σ) ad0 (fun _ _ => False)) args s 1 6 (fun a => H0.size ≤ a)) (pc := 5) (ls := ls) (rest := [.int 0, .ref (ad (0, 0))]) (own := RL) (name := NSE) (E := NSE) (ce := ce) (q := q9) hC.2.2.2.1 [] _ [] t1 (fun z hz => by cases hz) (by decide) (by decide) (hts _ (gd_of (i := 771) (by decide +kernel) rfl)) hc2 (by rw [e1]; exact hce) hcv hcl ?_
    · obtain ⟨t2, a1, b1⟩ := hend T' rfl X'
      exact ⟨t2, stp.trans a1, b1⟩
    · refine lv_astore hC.1 hC.2.1 dL_promised_12 hlv (lt_b rfl) rfl (fun ls hl => ?_)
      exact hJ p e s m args below meth c hC ad0 ad' T'.heap (locs ++ L) ls (by rw [e1]; exact hR') (hG.tr hG') (fun z hz => by
        rcases List.mem_append.mp hz with hz | hz
        · exact hlc z hz
        · exact hL9 z hz) (fun _ h => by cases h) (fun _ h => by cases h) (lv_less hl (fun _ h => by cases h))
end THROW
