def up (h : Hp) (q : Hd) (e : AE) : Hp := fun r => if r = q then some e else h r
theorem up_live {h : Hp} {q : Hd} {e : AE} {r : Hd} (x : h r ≠ none) : up h q e r ≠ none := by
  unfold up
  split
  · exact fun z => by cases z
  · exact x
theorem up_self {h : Hp} {q : Hd} {e : AE} : up h q e q = some e := by simp [up]
theorem okV_mono {h h' : Hp} (hm : ∀ r, h r ≠ none → h' r ≠ none) {v : AV} (x : okV h v) : okV h' v := by
  rcases v with a | a | _ | q
  · trivial
  · trivial
  · trivial
  · exact hm q x
theorem okE_mono {h h' : Hp} (hm : ∀ r, h r ≠ none → h' r ≠ none) {e : AE} (x : okE h e) : okE h' e := by
  rcases e with ⟨a, b, f | f | f⟩ | ⟨c, fs⟩
  · trivial
  · trivial
  · exact fun j q hj => hm q (x j q hj)
  · exact fun v hv => okV_mono hm (x v hv)
theorem okL_mono {h h' : Hp} (hm : ∀ r, h r ≠ none → h' r ≠ none) {lo : List (Option AV)} (x : okL h lo) : okL h' lo := fun v hv => okV_mono hm (x v hv)
theorem okS_mono {h h' : Hp} (hm : ∀ r, h r ≠ none → h' r ≠ none) {st : List AV} (x : okS h st) : okS h' st := fun v hv => okV_mono hm (x v hv)
theorem ne_some {h : Hp} {q : Hd} (x : h q ≠ none) : ∃ e, h q = some e := by
  cases hq : h q with
  | none => exact absurd hq x
  | some e => exact ⟨e, rfl⟩
section RPS
variable {D : va_G} {dA : Nat → ClassId} {H0 : Heap} {ad : Hd → Nat} {h : Hp} {H H1 : Heap}
theorem Rp.put {q : Hd} {e e1 : AE} (hR : Rp D dA H0 ad h H) (hq : h q = some e) (he : va_at D vwCl (ad q, ce dA ad e1) H1) (hz : H1.size = H.size) (ho : ∀ a, a ≠ ad q → H1[a]? = H[a]?) (hok : okE h e1) : Rp D dA H0 ad (up h q e1) H1 := by
  obtain ⟨r1, r2, r3, r4, r5⟩ := hR
  have hl : ∀ r, up h q e1 r ≠ none → h r ≠ none := fun r hr => by
    unfold up at hr
    split at hr
    · rename_i hrq
      rw [hrq, hq]
      exact fun z => by cases z
    · exact hr
  have hq0 := (r1 q e hq).2
  refine ⟨fun r x hx => ?_, fun r t hr ht hrt => r2 r t (hl r hr) (hl t ht) hrt, fun r x hx => ?_, by omega, fun a ha => ?_⟩
  · unfold up at hx
    split at hx
    · rename_i hrq
      cases hx
      subst hrq
      exact ⟨he, hq0⟩
    · rename_i hrq
      refine ⟨(r1 r x hx).1.kept (ho _ (fun z => hrq (r2 r q (by rw [hx]; exact fun z => by cases z) (by rw [hq]; exact fun z => by cases z) z))), (r1 r x hx).2⟩
  · unfold up at hx
    split at hx
    · cases hx
      exact okE_mono (fun r => up_live) hok
    · exact okE_mono (fun r => up_live) (r3 r x hx)
  · rw [ho a (by omega)]
    exact r5 a ha
/-- a new cell: a handle that was free gets the address -/
def nad (ad : Hd → Nat) (q : Hd) (a : Nat) : Hd → Nat := fun r => if r = q then a else ad r
theorem nad_ne {q r : Hd} {a : Nat} (x : r ≠ q) : nad ad q a r = ad r := by simp [nad, x]
theorem cv_nad {q : Hd} {a : Nat} (hq : h q = none) {v : AV} (x : okV h v) : cv (nad ad q a) v = cv ad v := by
  rcases v with z | z | _ | r
  · rfl
  · rfl
  · rfl
  · show Value.ref _ = Value.ref _
    rw [nad_ne (fun z => x (by rw [z]; exact hq))]
theorem map_nad {q : Hd} {a : Nat} (hq : h q = none) {st : List AV} (x : okS h st) : st.map (cv (nad ad q a)) = st.map (cv ad) := List.map_congr_left (fun v hv => cv_nad hq (x v hv))
theorem pr_nad {q : Hd} {a : Nat} (hq : h q = none) : ∀ {lo : List (Option AV)} (i : Nat), okL h lo → pr (nad ad q a) i lo = pr ad i lo
  | [], i, x => rfl
  | none :: t, i, x => pr_nad hq (i + 1) (fun v hv => x v (List.mem_cons_of_mem _ hv))
  | some v :: t, i, x => by
    show (i, cv _ v) :: pr _ _ t = _
    rw [cv_nad hq (x v List.mem_cons_self), pr_nad hq (i + 1) (fun v hv => x v (List.mem_cons_of_mem _ hv))]
    rfl
theorem ce_nad {q : Hd} {a : Nat} (hq : h q = none) {e : AE} (x : okE h e) : ce dA (nad ad q a) e = ce dA ad e := by
  rcases e with ⟨k, n, f | f | f⟩ | ⟨c, fs⟩
  · rfl
  · rfl
  · show Sum.inl _ = Sum.inl _
    refine congrArg (fun z => Sum.inl (dA k, n, Sum.inr (Sum.inr (Sum.inr (Sum.inr z))))) (funext fun j => ?_)
    cases hj : f j with
    | none => rfl
    | some r =>
      show some _ = some _
      rw [nad_ne (fun z => x j r hj (by rw [z]; exact hq))]
  · show Sum.inr _ = Sum.inr _
    rw [map_nad hq (st := fs) x]
theorem Rp.new {q : Hd} {e1 : AE} (hR : Rp D dA H0 ad h H) (hq : h q = none) (he : va_at D vwCl (H.size, ce dA ad e1) H1) (hz : H.size ≤ H1.size) (ho : ∀ a, a < H.size → H1[a]? = H[a]?) (hok : okE h e1) : Rp D dA H0 (nad ad q H.size) (up h q e1) H1 := by
  obtain ⟨r1, r2, r3, r4, r5⟩ := hR
  have hlt : ∀ r, h r ≠ none → ad r < H.size := fun r hr => by
    obtain ⟨x, hx⟩ := ne_some hr
    exact (r1 r x hx).1.lt
  have hl : ∀ r, up h q e1 r ≠ none → r = q ∨ (r ≠ q ∧ h r ≠ none) := fun r hr => by
    unfold up at hr
    split at hr
    · rename_i hrq; exact Or.inl hrq
    · rename_i hrq; exact Or.inr ⟨hrq, hr⟩
  refine ⟨fun r x hx => ?_, fun r t hr ht hrt => ?_, fun r x hx => ?_, by omega, fun a ha => ?_⟩
  · unfold up at hx
    split at hx
    · rename_i hrq
      cases hx
      subst hrq
      refine ⟨?_, by simp [nad]; omega⟩
      rw [ce_nad hq hok]
      show va_at D vwCl (nad ad r H.size r, _) H1
      rw [show nad ad r H.size r = H.size by simp [nad]]
      exact he
    · rename_i hrq
      rw [ce_nad hq (r3 r x hx), nad_ne hrq]
      exact ⟨(r1 r x hx).1.kept (ho _ (hlt r (by rw [hx]; exact fun z => by cases z))), (r1 r x hx).2⟩
  · rcases hl r hr with h1 | ⟨h1, h2⟩ <;> rcases hl t ht with h3 | ⟨h3, h4⟩
    · rw [h1, h3]
    · exfalso
      subst h1
      rw [nad_ne h3, show nad ad r H.size r = H.size by simp [nad]] at hrt
      have := hlt t h4
      omega
    · exfalso
      subst h3
      rw [nad_ne h1, show nad ad t H.size t = H.size by simp [nad]] at hrt
      have := hlt r h2
      omega
    · rw [nad_ne h1, nad_ne h3] at hrt
      exact r2 r t h2 h4 hrt
  · unfold up at hx
    split at hx
    · cases hx
      exact okE_mono (fun r => up_live) hok
    · exact okE_mono (fun r => up_live) (r3 r x hx)
  · rw [ho a (by omega)]
    exact r5 a ha
theorem Gr.put {h0 : Hp} {ad0 : Hd → Nat} {q : Hd} {e1 : AE} (x : Gr h0 ad0 h ad) : Gr h0 ad0 (up h q e1) ad := fun r hr => ⟨up_live (x r hr).1, (x r hr).2⟩
theorem Gr.new {h0 : Hp} {ad0 : Hd → Nat} {q : Hd} {e1 : AE} {a : Nat} (hq : h q = none) (x : Gr h0 ad0 h ad) : Gr h0 ad0 (up h q e1) (nad ad q a) := fun r hr => ⟨up_live (x r hr).1, (nad_ne (fun z => (x r hr).1 (by rw [z]; exact hq))).trans (x r hr).2⟩
end RPS
/-- a field: the number of its class, its slot, by the link of the class 'own' -/
def FG (own : String) (ix c kf : Nat) (C : String) (T : u_T) (N : Nat) : Prop := vwCl[c]? = some (C, T, N) ∧ (∀ w ∈ u_ws C T N, w ∈ lw_gd) ∧ kf < N ∧ (Cond.fieldLink own ix (T kf).1 (T kf).2.1 (T kf).2.2.1 ∈ lw_gd ∨ Cond.fieldLinkNest own ix (T kf).1 (T kf).2.1 (T kf).2.2.1 "GuestHouse" ∈ lw_nw)
/-- a class's fields have types and names of their own -/
def TT (T : u_T) (N : Nat) : Prop := ∃ ty0 : Nat → FieldType, (∀ k, k < N → parseFieldDescriptor (T k).2.2.1 = some (ty0 k)) ∧ ∀ a, a < N → ∀ b, b < N → a ≠ b → (T a).2.1 ≠ (T b).2.1
section ROWS
variable {l : Launch} {D : va_G} {dA : Nat → ClassId} {H0 : Heap} {y : YY} {h0 : Hx} {Po : Option AV → Hp → Prop} {k n : Nat} {h : Hp} {pc pc' : Nat} {lo : List (Option AV)} {st : List AV}
theorem j_getf {q : Hd} {ix c kf : Nat} {C : String} {T : u_T} {N : Nat} {fs : List AV} {v : AV} (hf : FG y.2.2.1 ix c kf C T N) (hq : ∀ e, h q = some e → e = .inr (c, fs)) (hv : fs[kf]? = some v) (hn : pc + 3 = pc') (hd : decode y.1 pc = .ok (.getfield ix, 3)) (kk : J l D dA H0 y h0 Po k n h pc' lo (v :: st)) : J l D dA H0 y h0 Po k n h pc lo (vR (some q) :: st) := by
  subst hn
  intro p e s m args below meth c0 hC ad0 ad H locs ls hR hG hlc hL hS hl
  obtain ⟨x, hx⟩ := ne_some (okS_h hS)
  have hxe := hq x hx
  subst hxe
  have hat := (hR.1 q _ hx).1
  have hok := hR.2.2.1 q _ hx
  have hP : va_P D vwCl [(ad q, ce dA ad (.inr (c, fs)))] H := fun i z hz => by
    have h0 : i < 1 := (List.getElem?_eq_some_iff.mp hz).1
    rw [show i = 0 by omega] at hz
    cases hz
    exact hat
  obtain ⟨g1, g2, g3, g4⟩ := hf
  have hfs : (fs.map (cv ad))[kf]? = some (cv ad v) := by rw [List.getElem?_map, hv]; rfl
  have kk := kk p e s m args below meth c0 hC ad0 ad H locs ls hR hG hlc hL (okS_c (hok v (List.mem_of_getElem? hv)) (okS_t hS)) hl
  rcases g4 with g4 | g4
  · exact va_get hC.1 hC.2.1 hC.2.2.2.2.1 g2 hC.2.2.2.1 hC.2.2.2.2.2.2.2.1.1.1 hP 0 rfl g1 kf g3 (hC.2.2.2.2.1 _ g4) (fun _ h9 => h9) hfs hd kk
  · exact va_getN hC.1 hC.2.1 hC.2.2.2.2.1 g2 hC.2.2.2.1 hC.2.2.2.2.2.2.2.1.1.1 hP 0 rfl g1 kf g3 (va_Nw.use rfl (hC.2.2.2.2.2.2.2.1.2.1 _ g4)) (fun _ h9 => h9) hfs hd kk
/-- a field is written: not final, or in a constructor of its own class -/
theorem j_putf {q : Hd} {ix c kf : Nat} {C : String} {T : u_T} {N : Nat} {fs : List AV} {v : AV} {ty : FieldType} (hf : FG y.2.2.1 ix c kf C T N) (hT : TT T N) (hty : parseFieldDescriptor (T kf).2.2.1 = some ty) (hfi : (T kf).2.2.2 = false ∨ ((T kf).2.2.2 = true ∧ y.2.2.2.2.2.1 = true ∧ (T kf).1 = y.2.2.1)) (hvt : ∀ ad, narrow ty (cv ad v) = cv ad v ∧ fits ty (cv ad v) = true) (hq : ∀ e, h q = some e → e = .inr (c, fs)) (hlen : kf < fs.length) (hn : pc + 3 = pc') (hd : decode y.1 pc = .ok (.putfield ix, 3)) (kk : J l D dA H0 y h0 Po k n (up h q (.inr (c, fs.set kf v))) pc' lo st) : J l D dA H0 y h0 Po k n h pc lo (v :: vR (some q) :: st) := by
  subst hn
  intro p e s m args below meth c0 hC ad0 ad H locs ls hR hG hlc hL hS hl
  obtain ⟨x, hx⟩ := ne_some (okS_h (okS_t hS))
  have hxe := hq x hx
  subst hxe
  have hat := (hR.1 q _ hx).1
  have hok := hR.2.2.1 q _ hx
  obtain ⟨g1, g2, g3, g4⟩ := hf
  obtain ⟨ty0, t1, t2⟩ := hT
  have hts := hC.2.2.2.2.1
  have hK := hC.2.2.2.2.2.2.2.1.1.1
  have hap := va_apart (own := y.2.2.1) hts g2 ty0 t1 t2 hK g1
  obtain ⟨r, h1, cell, q1, q2, q3, q4⟩ := hat
  have hr : r = (C, T, N) := Option.some.inj (h1.symm.trans g1)
  subst hr
  obtain ⟨hSl, hfc, kC, hkC, hkind⟩ := hK.1 c _ g1
  obtain ⟨cf, kf0, fi, f, hi, hsl⟩ := hSl kf g3
  have hst := (u_facts hfc hkC (u_lays hts g2 g3) hi).1
  have hlay := hts _ (g2 _ (u_in_lay g3))
  have hnew : okE h (.inr (c, fs.set kf v)) := fun z hz => by
    rcases List.mem_or_eq_of_mem_set hz with hz | rfl
    · exact hok z hz
    · exact okS_h hS
  have fin : ∀ (H' : Heap), H'[ad q]? = some (cell.setSlot f.slot (cv ad v)) → H'.size = H.size → (∀ a, a ≠ ad q → H'[a]? = H[a]?) → W p l e y.2.2.2.2.1 s m args below meth c0 H' (locs ++ [⟨ad q, f.slot⟩]) k n (vx_MQ below (QQ D dA H0 h0.1 ad0 Po) (XX D dA H0 h0.1 ad0 h0.2) args s y.2.2.2.2.1.cells y.2.2.2.2.1.slots (fun a => H0.size ≤ a)) (F0 m (pc + 3) ls (st.map (cv ad))) := fun H' e1 e2 e3 => by
    rw [hsl] at e1
    refine kk p e s m args below meth c0 hC ad0 ad H' _ ls (hR.put hx ⟨_, g1, ?_⟩ e2 e3 hnew) hG.put (fun z hz => ?_) (okL_mono (fun _ => up_live) hL) (okS_mono (fun _ => up_live) (okS_t (okS_t hS))) hl
    · have := t_OB.to (V' := vp_V ((fs.map (cv ad)).set kf (cv ad v))) (V := updV (vp_V (fs.map (cv ad))) kf (cv ad v)) ⟨_, e1, q2, q3, t_set q4 hap g3 (cv ad v)⟩ (fun j _ => vp_updV_set (by rw [List.length_map]; exact hlen) (cv ad v) j)
      rw [← List.map_set] at this
      exact this
    · rcases List.mem_append.mp hz with hz | hz
      · exact hlc z hz
      · rw [List.mem_singleton.mp hz]
        exact (hR.1 q _ hx).2
  unfold u_lay at hlay
  rcases hfi with hfi | ⟨hfi, hin, hdecl⟩
  · rw [if_neg (by rw [hfi]; decide)] at hlay
    have h6 := u_store hfc hkC hkind hlay hi hty (hvt ad).1 (hvt ad).2
    rcases g4 with g4 | g4
    · exact W.putK hC.1 hC.2.1 (f := f) ⟨hC.2.2.2.1, hts _ g4, ⟨_, _, _, hi⟩, hst⟩ (by rw [q2]; exact h6) q1 q3 (by rw [hsl]; exact k2_hasslot (q4 kf g3)) rfl rfl hd fin
    · exact va_WputK hC.1 hC.2.1 (f := f) hC.2.2.2.1 (va_Nw.use rfl (hC.2.2.2.2.2.2.2.1.2.1 _ g4)) hi hst (by rw [q2]; exact h6) q1 q3 (by rw [hsl]; exact k2_hasslot (q4 kf g3)) rfl rfl hd fin
  · rw [if_pos hfi] at hlay
    have hcf : m.cls = cf := by
      obtain ⟨_, _, c', _, _, _, -, -, hf', -, -, -, hown2, -⟩ := Cond.laysFinal_spec hlay
      have e1 : c' = cf := by have := hi.symm.trans hf'; simp at this; exact this.1.symm
      rw [hdecl] at hown2
      rw [← e1]; exact Option.some.inj (hC.2.2.2.1.symm.trans hown2)
    have h6 := u_fits hfc hkC hkind (Or.inr hlay) hi hty (hvt ad).1 (hvt ad).2
    rcases g4 with g4 | g4
    · exact W.putFinK hC.1 hC.2.1 hC.2.2.2.1 (hts _ g4) hi hst hcf (hC.2.2.2.2.2.2.2.2.1 hin) (by rw [q2]; exact h6) q1 q3 (by rw [hsl]; exact k2_hasslot (q4 kf g3)) rfl rfl hd fin
    · refine va_Wputf hC.1 hC.2.1 hC.2.2.2.1 (va_Nw.use rfl (hC.2.2.2.2.2.2.2.1.2.1 _ g4)) hi hst (Or.inr ⟨hcf, hC.2.2.2.2.2.2.2.2.1 hin⟩) q1 (by rw [q3]; exact fun h => by cases h) (by rw [hsl]; exact k2_hasslot (q4 kf g3)) h6.1 (by rw [q3, q2]; exact h6.2) rfl rfl hd (fin _ ?_ ?_ ?_)
      · simp [Array.getElem?_setIfInBounds, (Array.getElem?_eq_some_iff.mp q1).1]
      · simp
      · intro a ha
        simp [Array.getElem?_setIfInBounds, Ne.symm ha]
theorem j_iald {q : Hd} {N : Nat} {f : Nat → Int32} {i : Int32} (hq : ∀ e, h q = some e → e = .inl (0, N, .inl f)) (hi : vp_in i N) (hn : pc + 1 = pc') (hd : decode y.1 pc = .ok (.iaload, 1)) (kk : J l D dA H0 y h0 Po k n h pc' lo (vI (f i.toNatClampNeg) :: st)) : J l D dA H0 y h0 Po k n h pc lo (vI i :: vR (some q) :: st) := by
  subst hn
  intro p e s m args below meth c0 hC ad0 ad H locs ls hR hG hlc hL hS hl
  obtain ⟨x, hx⟩ := ne_some (okS_h (okS_t hS))
  have hxe := hq x hx
  subst hxe
  have hat : H[ad q]? = some (vp_cell (dA 0) (N, .inl f)) := (hR.1 q _ hx).1
  have hlt : i.toNatClampNeg < N := Nat.not_le.mp fun q => hi (Or.inr q)
  exact W.iald (v := .int (f i.toNatClampNeg)) hC.1 hC.2.1 hat ((hC.2.2.2.2.2.2.2.1.1.2 0 (by decide)).1 N (fun j => .int (f j))) (fun q => by cases q) (by show ¬ (i < 0 ∨ (arrV _ _ _).slots.size ≤ _); rw [arrV_size]; exact hi) (by show (arrV _ _ _).slots[_]? = _; rw [arrV_read _ _ hlt]) rfl rfl hd (kk p e s m args below meth c0 hC ad0 ad H locs ls hR hG hlc hL (okS_c trivial (okS_t (okS_t hS))) hl)
theorem j_bald {q : Hd} {N : Nat} {f : Nat → Int32} {i : Int32} (hq : ∀ e, h q = some e → e = .inl (2, N, .inl f)) (hi : vp_in i N) (hn : pc + 1 = pc') (hd : decode y.1 pc = .ok (.baload, 1)) (kk : J l D dA H0 y h0 Po k n h pc' lo (vI (f i.toNatClampNeg) :: st)) : J l D dA H0 y h0 Po k n h pc lo (vI i :: vR (some q) :: st) := by
  subst hn
  intro p e s m args below meth c0 hC ad0 ad H locs ls hR hG hlc hL hS hl
  obtain ⟨x, hx⟩ := ne_some (okS_h (okS_t hS))
  have hxe := hq x hx
  subst hxe
  have hat : H[ad q]? = some (vp_cell (dA 2) (N, .inl f)) := (hR.1 q _ hx).1
  have hlt : i.toNatClampNeg < N := Nat.not_le.mp fun q => hi (Or.inr q)
  exact W.zald (v := .int (f i.toNatClampNeg)) hC.1 hC.2.1 hat ((hC.2.2.2.2.2.2.2.1.1.2 2 (by decide)).1 N (fun j => .int (f j))) (fun q => by cases q) (by show ¬ (i < 0 ∨ (arrV _ _ _).slots.size ≤ _); rw [arrV_size]; exact hi) (by show (arrV _ _ _).slots[_]? = _; rw [arrV_read _ _ hlt]) rfl rfl hd (kk p e s m args below meth c0 hC ad0 ad H locs ls hR hG hlc hL (okS_c trivial (okS_t (okS_t hS))) hl)
theorem j_lald {q : Hd} {N : Nat} {f : Nat → Int64} {i : Int32} (hq : ∀ e, h q = some e → e = .inl (1, N, .inr (.inl f))) (hi : vp_in i N) (hn : pc + 1 = pc') (hd : decode y.1 pc = .ok (.laload, 1)) (kk : J l D dA H0 y h0 Po k n h pc' lo (vL (f i.toNatClampNeg) :: st)) : J l D dA H0 y h0 Po k n h pc lo (vI i :: vR (some q) :: st) := by
  subst hn
  intro p e s m args below meth c0 hC ad0 ad H locs ls hR hG hlc hL hS hl
  obtain ⟨x, hx⟩ := ne_some (okS_h (okS_t hS))
  have hxe := hq x hx
  subst hxe
  have hat : H[ad q]? = some (vp_cell (dA 1) (N, .inr (.inl f))) := (hR.1 q _ hx).1
  have hlt : i.toNatClampNeg < N := Nat.not_le.mp fun q => hi (Or.inr q)
  exact W.lald (v := .long (f i.toNatClampNeg)) hC.1 hC.2.1 hat ((hC.2.2.2.2.2.2.2.1.1.2 1 (by decide)).1 N (fun j => .long (f j))) (fun q => by cases q) (by show ¬ (i < 0 ∨ (arrV _ _ _).slots.size ≤ _); rw [arrV_size]; exact hi) (by show (arrV _ _ _).slots[_]? = _; rw [arrV_read _ _ hlt]) rfl rfl hd (kk p e s m args below meth c0 hC ad0 ad H locs ls hR hG hlc hL (okS_c trivial (okS_t (okS_t hS))) hl)
theorem rf_cv {ad : Hd → Nat} (r : Option Hd) : va_rf (r.map ad) = cv ad (vR r) := by cases r <;> rfl
theorem j_aald {q : Hd} {a N : Nat} {f : Nat → Option Hd} {i : Int32} (ha : 3 ≤ a ∧ a < 7) (hq : ∀ e, h q = some e → e = .inl (a, N, .inr (.inr f))) (hi : vp_in i N) (hn : pc + 1 = pc') (hd : decode y.1 pc = .ok (.aaload, 1)) (kk : J l D dA H0 y h0 Po k n h pc' lo (vR (f i.toNatClampNeg) :: st)) : J l D dA H0 y h0 Po k n h pc lo (vI i :: vR (some q) :: st) := by
  subst hn
  intro p e s m args below meth c0 hC ad0 ad H locs ls hR hG hlc hL hS hl
  obtain ⟨x, hx⟩ := ne_some (okS_h (okS_t hS))
  have hxe := hq x hx
  subst hxe
  have hat : H[ad q]? = some (vp_cell (dA a) (N, .inr (.inr (.inr (.inr (fun j => (f j).map ad)))))) := (hR.1 q _ hx).1
  have hok := hR.2.2.1 q _ hx
  have hlt : i.toNatClampNeg < N := Nat.not_le.mp fun q => hi (Or.inr q)
  have hrt : (tyA a).isReference = true := by
    obtain ⟨h3, h7⟩ := ha
    match a, h3, h7 with
    | 3, _, _ => rfl
    | 4, _, _ => rfl
    | 5, _, _ => rfl
    | 6, _, _ => rfl
  have hov : okV h (vR (f i.toNatClampNeg)) := by
    cases hf : f i.toNatClampNeg with
    | none => trivial
    | some r => exact hok _ r hf
  refine W.aald (v := va_rf ((f i.toNatClampNeg).map ad)) (ty := tyA a) hC.1 hC.2.1 hat ((hC.2.2.2.2.2.2.2.1.1.2 a ha.2).1 N (fun j => va_rf ((f j).map ad))) hrt (fun q => by cases q) (by show ¬ (i < 0 ∨ (arrV _ _ _).slots.size ≤ _); rw [arrV_size]; exact hi) (by show (arrV _ _ _).slots[_]? = _; rw [arrV_read _ _ hlt]) rfl rfl hd ?_
  rw [rf_cv]
  exact kk p e s m args below meth c0 hC ad0 ad H locs ls hR hG hlc hL (okS_c hov (okS_t (okS_t hS))) hl
theorem j_iast {q : Hd} {N : Nat} {f : Nat → Int32} {i x : Int32} (hq : ∀ e, h q = some e → e = .inl (0, N, .inl f)) (hi : vp_in i N) (hn : pc + 1 = pc') (hd : decode y.1 pc = .ok (.iastore, 1)) (kk : J l D dA H0 y h0 Po k n (up h q (.inl (0, N, .inl (upd f i.toNatClampNeg x)))) pc' lo st) : J l D dA H0 y h0 Po k n h pc lo (vI x :: vI i :: vR (some q) :: st) := by
  subst hn
  intro p e s m args below meth c0 hC ad0 ad H locs ls hR hG hlc hL hS hl
  obtain ⟨x0, hx⟩ := ne_some (okS_h (okS_t (okS_t hS)))
  have hxe := hq x0 hx
  subst hxe
  have hat : H[ad q]? = some (vp_cell (dA 0) (N, .inl f)) := (hR.1 q _ hx).1
  refine W.iast hC.1 hC.2.1 hat ((hC.2.2.2.2.2.2.2.1.1.2 0 (by decide)).1 N (fun j => .int (f j))) (fun q => by cases q) (by show ¬ (i < 0 ∨ (arrV _ _ _).slots.size ≤ _); rw [arrV_size]; exact hi) rfl rfl hd fun H1 e1 z oq => ?_
  refine kk p e s m args below meth c0 hC ad0 ad H1 _ ls (hR.put hx ?_ z oq trivial) hG.put (fun z hz => ?_) (okL_mono (fun _ => up_live) hL) (okS_mono (fun _ => up_live) (okS_t (okS_t (okS_t hS)))) hl
  · show H1[ad q]? = some (vp_cell _ _)
    rw [e1, vp_cell_i, ca, vp_cell_i, arrV_store]
    congr 2
    funext j
    by_cases hj : j = i.toNatClampNeg
    · subst hj; simp [updV, upd]
    · simp [updV, upd, hj]
  · rcases List.mem_append.mp hz with hz | hz
    · exact hlc z hz
    · rw [List.mem_singleton.mp hz]; exact (hR.1 q _ hx).2
theorem j_bast {q : Hd} {N : Nat} {f : Nat → Int32} {i x : Int32} (hq : ∀ e, h q = some e → e = .inl (2, N, .inl f)) (hi : vp_in i N) (hn : pc + 1 = pc') (hd : decode y.1 pc = .ok (.bastore, 1)) (kk : J l D dA H0 y h0 Po k n (up h q (.inl (2, N, .inl (upd f i.toNatClampNeg (vp_nar .boolean x))))) pc' lo st) : J l D dA H0 y h0 Po k n h pc lo (vI x :: vI i :: vR (some q) :: st) := by
  subst hn
  intro p e s m args below meth c0 hC ad0 ad H locs ls hR hG hlc hL hS hl
  obtain ⟨x0, hx⟩ := ne_some (okS_h (okS_t (okS_t hS)))
  have hxe := hq x0 hx
  subst hxe
  have hat : H[ad q]? = some (vp_cell (dA 2) (N, .inl f)) := (hR.1 q _ hx).1
  refine W.zast hC.1 hC.2.1 hat ((hC.2.2.2.2.2.2.2.1.1.2 2 (by decide)).1 N (fun j => .int (f j))) (fun q => by cases q) (by show ¬ (i < 0 ∨ (arrV _ _ _).slots.size ≤ _); rw [arrV_size]; exact hi) rfl rfl hd fun H1 e1 z oq => ?_
  refine kk p e s m args below meth c0 hC ad0 ad H1 _ ls (hR.put hx ?_ z oq trivial) hG.put (fun z hz => ?_) (okL_mono (fun _ => up_live) hL) (okS_mono (fun _ => up_live) (okS_t (okS_t (okS_t hS)))) hl
  · show H1[ad q]? = some (vp_cell _ _)
    rw [e1, vp_cell_i, ca, vp_cell_i, arrV_store]
    congr 2
    funext j
    by_cases hj : j = i.toNatClampNeg
    · subst hj
      simp [updV, upd, vp_nar]
      try rfl
    · simp [updV, upd, hj]
  · rcases List.mem_append.mp hz with hz | hz
    · exact hlc z hz
    · rw [List.mem_singleton.mp hz]; exact (hR.1 q _ hx).2
theorem j_last {q : Hd} {N : Nat} {f : Nat → Int64} {i : Int32} {x : Int64} (hq : ∀ e, h q = some e → e = .inl (1, N, .inr (.inl f))) (hi : vp_in i N) (hn : pc + 1 = pc') (hd : decode y.1 pc = .ok (.lastore, 1)) (kk : J l D dA H0 y h0 Po k n (up h q (.inl (1, N, .inr (.inl (vp_updL f i.toNatClampNeg x))))) pc' lo st) : J l D dA H0 y h0 Po k n h pc lo (vL x :: vI i :: vR (some q) :: st) := by
  subst hn
  intro p e s m args below meth c0 hC ad0 ad H locs ls hR hG hlc hL hS hl
  obtain ⟨x0, hx⟩ := ne_some (okS_h (okS_t (okS_t hS)))
  have hxe := hq x0 hx
  subst hxe
  have hat : H[ad q]? = some (vp_cell (dA 1) (N, .inr (.inl f))) := (hR.1 q _ hx).1
  refine W.last hC.1 hC.2.1 hat ((hC.2.2.2.2.2.2.2.1.1.2 1 (by decide)).1 N (fun j => .long (f j))) (fun q => by cases q) (by show ¬ (i < 0 ∨ (arrV _ _ _).slots.size ≤ _); rw [arrV_size]; exact hi) rfl rfl hd fun H1 e1 z oq => ?_
  refine kk p e s m args below meth c0 hC ad0 ad H1 _ ls (hR.put hx ?_ z oq trivial) hG.put (fun z hz => ?_) (okL_mono (fun _ => up_live) hL) (okS_mono (fun _ => up_live) (okS_t (okS_t (okS_t hS)))) hl
  · show H1[ad q]? = some (vp_cell _ _)
    rw [e1, vp_cell_l, ca, vp_cell_l, arrV_store]
    congr 2
    funext j
    by_cases hj : j = i.toNatClampNeg
    · subst hj; simp [updV, vp_updL]
    · simp [updV, vp_updL, hj]
  · rcases List.mem_append.mp hz with hz | hz
    · exact hlc z hz
    · rw [List.mem_singleton.mp hz]; exact (hR.1 q _ hx).2
theorem j_aast {q v : Hd} {a N c : Nat} {C : String} {r : vw_C} {fs : List AV} {f : Nat → Option Hd} {i : Int32} (ha : a < 7) (hta : tyA a = .object r.1) (hq : ∀ e, h q = some e → e = .inl (a, N, .inr (.inr f))) (hv : ∀ e, h v = some e → e = .inr (c, fs)) (hc : vwCl[c]? = some r) (hi : vp_in i N) (hn : pc + 1 = pc') (hd : decode y.1 pc = .ok (.aastore, 1)) (kk : J l D dA H0 y h0 Po k n (up h q (.inl (a, N, .inr (.inr (va_up f i.toNatClampNeg (some v)))))) pc' lo st) : J l D dA H0 y h0 Po k n h pc lo (vR (some v) :: vI i :: vR (some q) :: st) := by
  subst hn
  intro p e s m args below meth c0 hC ad0 ad H locs ls hR hG hlc hL hS hl
  obtain ⟨x0, hx⟩ := ne_some (okS_h (okS_t (okS_t hS)))
  have hxe := hq x0 hx
  subst hxe
  obtain ⟨x1, hx1⟩ := ne_some (okS_h hS)
  have hxe := hv x1 hx1
  subst hxe
  have hat : H[ad q]? = some (vp_cell (dA a) (N, .inr (.inr (.inr (.inr (fun j => (f j).map ad)))))) := (hR.1 q _ hx).1
  have hok := hR.2.2.1 q _ hx
  have hK := hC.2.2.2.2.2.2.2.1.1
  have hlt : i.toNatClampNeg < N := Nat.not_le.mp fun q => hi (Or.inr q)
  have h00 : ¬ i < 0 := fun q => hi (Or.inl q)
  obtain ⟨r', hr', cellV, g1, g2, g3, -⟩ := (hR.1 v _ hx1).1
  have hcls := (hK.1.1 c r hc).2
  have hra := (hK.2 a ha).2
  rw [hta] at hra
  obtain ⟨kA, comp, k1, k2, k3, -⟩ := hra
  have hcomp : comp = D.1 c := Option.some.inj (k3.symm.trans hcls.1)
  subst hcomp
  obtain ⟨kC, hkC, -⟩ := hcls.2
  refine W.aast hC.1 hC.2.1 hat (fun q h => by cases h) (fun h => by cases h) k1 k2 rfl hkC ⟨h00, by show _ < (arrV _ _ _).slots.size; rw [arrV_size]; exact hlt⟩ g1 (fun q h => by rw [g3] at h; cases h) (by rw [g2]; exact hkC) (by rw [g2]; exact va_assign hcls) rfl rfl hd fun H1 e1 z oq => ?_
  have hnew : okE h (.inl (a, N, .inr (.inr (va_up f i.toNatClampNeg (some v))))) := fun j t ht => by
    unfold va_up at ht
    split at ht
    · cases ht; exact okS_h hS
    · exact hok j t ht
  refine kk p e s m args below meth c0 hC ad0 ad H1 _ ls (hR.put hx ?_ z oq hnew) hG.put (fun z hz => ?_) (okL_mono (fun _ => up_live) hL) (okS_mono (fun _ => up_live) (okS_t (okS_t (okS_t hS)))) hl
  · show H1[ad q]? = some (vp_cell _ _)
    rw [e1, vp_cell_q, ca, vp_cell_q, arrV_store]
    congr 2
    funext j
    by_cases hj : j = i.toNatClampNeg
    · subst hj; simp [updV, va_up, va_rf]
    · simp [updV, va_up, hj]
  · rcases List.mem_append.mp hz with hz | hz
    · exact hlc z hz
    · rw [List.mem_singleton.mp hz]; exact (hR.1 q _ hx).2
theorem j_alen {q : Hd} {N : Nat} {f : Nat → Int32} (hq : ∀ e, h q = some e → e = .inl (0, N, .inl f)) (hn : pc + 1 = pc') (hd : decode y.1 pc = .ok (.arraylength, 1)) (kk : J l D dA H0 y h0 Po k n h pc' lo (vI (Int32.ofNat N) :: st)) : J l D dA H0 y h0 Po k n h pc lo (vR (some q) :: st) := by
  subst hn
  intro p e s m args below meth c0 hC ad0 ad H locs ls hR hG hlc hL hS hl
  obtain ⟨x, hx⟩ := ne_some (okS_h hS)
  have hxe := hq x hx
  subst hxe
  have hat : H[ad q]? = some (vp_cell (dA 0) (N, .inl f)) := (hR.1 q _ hx).1
  exact W.alen (n := Int32.ofNat N) hC.1 hC.2.1 hat ((hC.2.2.2.2.2.2.2.1.1.2 0 (by decide)).1 N (fun j => .int (f j))) (by rw [vp_cell_i, arrV_size] <;> rfl) rfl rfl hd (kk p e s m args below meth c0 hC ad0 ad H locs ls hR hG hlc hL (okS_c trivial (okS_t hS)) hl)
end ROWS
