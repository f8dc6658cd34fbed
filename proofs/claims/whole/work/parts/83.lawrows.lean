section LAWROWS
variable {l : Launch} {D : va_G} {dA : Nat → ClassId} {H0 : Heap} {h0 : Hx} {Po : Option AV → Hp → Prop} {b L : Nat} {xs : Nat → Int32} {k n : Nat} {h : Hp} {pc pc' : Nat} {lo : List (Option AV)} {st : List AV}
/-- what the law's walk is told of its start: the script, what a throw needs, no stack traces -/
def XW (l : Launch) (H0 : Heap) (b L : Nat) (xs : Nat → Int32) (s : State) (_ : Code) : Prop := (va_X b L xs s H0 ∧ b < H0.size) ∧ XK H0 s ∧ l.stackTraces = false
def YW (l : Launch) (H0 : Heap) (b L : Nat) (xs : Nat → Int32) : YY := (cL_law, 8, RL, some .boolean, { frames := 10, cells := 601024, slots := 7293034, locals := 390 }, false, XW l H0 b L xs, [(0, .ref b)])
theorem sS {ad : Hd → Nat} {H : Heap} {locs : List Loc} (hR : Rp D dA H0 ad h H) (hlc : ∀ x ∈ locs, H0.size ≤ x.base) : va_S (fun q => H0.size ≤ q) H0 H locs := ⟨hR.2.2.2.1, fun q hq _ => hR.2.2.2.2 q hq, hlc⟩
/-- aload_0; arraylength -/
theorem j_slen (hn : pc + 2 = pc') (d0 : decode cL_law pc = .ok (.aload_n 0, 1)) (d1 : decode cL_law (pc + 1) = .ok (.arraylength, 1)) (kk : J l D dA H0 (YW l H0 b L xs) h0 Po k n h pc' lo (vI (Int32.ofNat L) :: st)) : J l D dA H0 (YW l H0 b L xs) h0 Po k n h pc lo st := by
  subst hn
  intro p e s m args below meth c hC ad0 ad H locs ls hR hG hlc hL hS hl
  obtain ⟨⟨hX, hbl⟩, -, -⟩ := hC.2.2.2.2.2.2.2.2.2
  have hq := hl.2.2 _ (List.mem_append_left _ (List.mem_cons_self (a := (0, Value.ref b)) (l := [])))
  refine lv_aload_n hC.1 hC.2.1 d0 rfl hq ?_
  refine va_slen (A := fun q => H0.size ≤ q) (H0 := H0) hC.1 hC.2.1 hX hbl (Nat.not_le.mpr hbl) (sS hR hlc) d1 ?_
  exact kk p e s m args below meth c hC ad0 ad H locs ls hR hG hlc hL (okS_c trivial hS) hl
/-- aload_0; iload 4; iaload -/
theorem j_sld {i : Int32} (hg : lgt lo 4 = some (vI i)) (hi : vp_in i L) (hn : pc + 4 = pc') (d0 : decode cL_law pc = .ok (.aload_n 0, 1)) (d1 : decode cL_law (pc + 1) = .ok (.iload 4, 2)) (d3 : decode cL_law (pc + 3) = .ok (.iaload, 1)) (kk : J l D dA H0 (YW l H0 b L xs) h0 Po k n h pc' lo (vI (xs i.toNatClampNeg) :: st)) : J l D dA H0 (YW l H0 b L xs) h0 Po k n h pc lo st := by
  subst hn
  intro p e s m args below meth c hC ad0 ad H locs ls hR hG hlc hL hS hl
  obtain ⟨⟨hX, hbl⟩, -, -⟩ := hC.2.2.2.2.2.2.2.2.2
  have hq := hl.2.2 _ (List.mem_append_left _ (List.mem_cons_self (a := (0, Value.ref b)) (l := [])))
  have hq4 := hl.2.2 _ (List.mem_append_right _ (pr_get (ad := ad) lo _ 0 hg))
  rw [Nat.zero_add] at hq4
  refine lv_aload_n hC.1 hC.2.1 d0 rfl hq ?_
  refine lv_iload hC.1 hC.2.1 d1 hq4 ?_
  refine va_sld (A := fun q => H0.size ≤ q) (H0 := H0) hC.1 hC.2.1 hX hbl (Nat.not_le.mpr hbl) (sS hR hlc) hi d3 ?_
  exact kk p e s m args below meth c hC ad0 ad H locs ls hR hG hlc hL (okS_c trivial hS) hl
/-- aload_0; iload 4; iconst z; iadd; iaload -/
theorem j_arg {i v : Int32} {z : Int} (hv : Int32.ofInt z = v) (hg : lgt lo 4 = some (vI i)) (hi : vp_in (i + v) L) (hn : pc + 6 = pc') (d0 : decode cL_law pc = .ok (.aload_n 0, 1)) (d1 : decode cL_law (pc + 1) = .ok (.iload 4, 2)) (d3 : decode cL_law (pc + 3) = .ok (.iconst z, 1)) (d4 : decode cL_law (pc + 4) = .ok (.iadd, 1)) (d5 : decode cL_law (pc + 5) = .ok (.iaload, 1)) (kk : J l D dA H0 (YW l H0 b L xs) h0 Po k n h pc' lo (vI (xs (i + v).toNatClampNeg) :: st)) : J l D dA H0 (YW l H0 b L xs) h0 Po k n h pc lo st := by
  subst hn
  intro p e s m args below meth c hC ad0 ad H locs ls hR hG hlc hL hS hl
  obtain ⟨⟨hX, hbl⟩, -, -⟩ := hC.2.2.2.2.2.2.2.2.2
  have hq := hl.2.2 _ (List.mem_append_left _ (List.mem_cons_self (a := (0, Value.ref b)) (l := [])))
  have hq4 := hl.2.2 _ (List.mem_append_right _ (pr_get (ad := ad) lo _ 0 hg))
  rw [Nat.zero_add] at hq4
  refine lv_aload_n hC.1 hC.2.1 d0 rfl hq ?_
  refine lv_iload hC.1 hC.2.1 d1 hq4 ?_
  refine lv_iconst (v := v) hC.1 hC.2.1 d3 hv ?_
  refine lv_iadd hC.1 hC.2.1 d4 ?_
  refine va_sld (A := fun q => H0.size ≤ q) (H0 := H0) hC.1 hC.2.1 hX hbl (Nat.not_le.mpr hbl) (sS hR hlc) hi d5 ?_
  exact kk p e s m args below meth c hC ad0 ad H locs ls hR hG hlc hL (okS_c trivial hS) hl
theorem lp_good : GoodIn lw_gd (va_wsS RL 87 yL_promised (Cond.codeWith yL_promised cL_promised 5 (some .int) [(0, 9, 12, 13)] :: lw_gd)) := fun w hw => by
  rcases List.mem_append.mp hw with hw | hw
  · rcases List.mem_cons.mp hw with rfl | hw
    · exact gd_good _ (gd_of (i := 768) (by decide +kernel) rfl)
    rcases List.mem_cons.mp hw with rfl | hw
    · exact gd_good _ (gd_of (i := 769) (by decide +kernel) rfl)
    rcases List.mem_cons.mp hw with rfl | hw
    · exact gd_good _ (gd_of (i := 41) (by decide +kernel) rfl)
    · cases hw
  · rcases List.mem_cons.mp hw with rfl | hw
    · exact gd_good _ (gd_of (i := 770) (by decide +kernel) rfl)
    · exact gd_good _ hw
/-- the law calls its own method promised -/
theorem j_lp {as : List AV} {h1 : Hp} {v : AV} (hM : ML l D dA H0 as h (fun r h' => r = some v ∧ h' = h1)) (hlen : as.length = 4) (hw : (st.map wd).sum ≤ 8) (hroom : k + 1 ≤ 601024 ∧ n + 6 ≤ 7293034) {s0 : List AV} (hs : s0 = as.reverse ++ st) (hn : pc + 3 = pc') (hd : decode cL_law pc = .ok (.invokestatic 87, 3)) (kk : J l D dA H0 (YW l H0 b L xs) h0 Po (k + 1) (n + 6) h1 pc' lo (v :: st)) : J l D dA H0 (YW l H0 b L xs) h0 Po k n h pc lo s0 := by
  subst hs
  refine j_ofRun (Pq := fun r h' => r = some v ∧ h' = h1) (mc := 1) (ms := 6) (st := st) ?_ (fun x v hv => x v (List.mem_append_right _ hv)) hn (fun r h' hp => by obtain ⟨rfl, rfl⟩ := hp; exact kk)
  intro p e s m args below meth c0 hC ad H locs ls hR hS hsz
  obtain ⟨-, hX, -⟩ := hC.2.2.2.2.2.2.2.2.2
  have hts := hC.2.2.2.2.1
  have hP : ∀ U : State, U.heap = H → s.WarmedH U.vm → (fun a U => a = (as.map (cv ad)).toArray ∧ Rp D dA H0 ad h U.heap ∧ okS h as ∧ KK D dA U ∧ XK H0 U) (as.map (cv ad)).toArray U := fun U hU hW => ⟨rfl, by rw [hU]; exact hR, (fun v hv => hS v (List.mem_append_left _ (List.mem_reverse.mpr hv))), KK.warm hW hC.2.2.2.2.2.2.2.1, XK.warm hW hX⟩
  have hstk : ((as.reverse ++ st).map (cv ad)) = (as.map (cv ad)).reverse ++ st.map (cv ad) := by
    rw [List.map_append, List.map_reverse]
  refine ⟨(as.map (cv ad)).toArray, ?_⟩
  exact vx_runSW (R := (YW l H0 b L xs).2.2.2.2.1) ⟨hC.1, hC.2.1, hC.2.2.1, hC.2.2.2.1, hts⟩ (hM ad) (vx_cwSW 4 hts lp_good rfl rfl rfl ⟨by decide, by decide, by decide +kernel⟩ ⟨le_b rfl, le_b rfl⟩) ⟨pcx_blind, hP⟩ rfl (by rw [List.length_map]; exact hlen) hsz hstk (by rw [wd_sum]; show 2 * 0 + _ ≤ 8; omega) hd hroom
/-- the room of a turn of the loop -/
theorem rm_w {t c s : Nat} (ht : t < 512) (hc : c ≤ 4) (hs : s ≤ 70) : 100 + 8 * t + c ≤ (YW l H0 b L xs).2.2.2.2.1.cells ∧ 5000 + 80 * t + s ≤ (YW l H0 b L xs).2.2.2.2.1.slots := by
  show 100 + 8 * t + c ≤ 601024 ∧ 5000 + 80 * t + s ≤ 7293034
  omega
theorem rm_w2 {t c s : Nat} (ht : t < 512) (hc : c ≤ 0) (hs : s ≤ 0) : 100 + 8 * t + 4 + c ≤ (YW l H0 b L xs).2.2.2.2.1.cells ∧ 5000 + 80 * t + 70 + s ≤ (YW l H0 b L xs).2.2.2.2.1.slots := by
  show 100 + 8 * t + 4 + c ≤ 601024 ∧ 5000 + 80 * t + 70 + s ≤ 7293034
  omega
/-- the law's locals -/
abbrev LO (i : Int32) (o5 o6 o7 : Option AV) : List (Option AV) := [none, some (vR (some (1, 0))), some (vR (some (30, 0))), some (vR (some (0, 0))), some (vI i), o5, o6, o7]
/-- a turn of the loop, from pc: to the loop's end with the invariant -/
def LC (l : Launch) (D : va_G) (dA : Nat → ClassId) (H0 : Heap) (b L : Nat) (xs : Nat → Int32) (h0 : Hx) (Po : Option AV → Hp → Prop) (pc : Nat) : Prop :=
  ∀ (t : Nat) (i : Int32) (σ : Mem) (o5 o6 o7 : Option AV), t < 512 → (vp_in (i + 1) L ∧ vp_in (i + 2) L ∧ vp_in (i + 3) L ∧ vp_in (i + 4) L ∧ vp_in (i + 5) L) → INV σ →
  (∀ σ' o5 o6 o7, INV σ' → J l D dA H0 (YW l H0 b L xs) h0 Po (100 + 8 * (t + 1)) (5000 + 80 * (t + 1)) (hp σ') 1312 (LO i o5 o6 o7) []) → J l D dA H0 (YW l H0 b L xs) h0 Po (100 + 8 * t) (5000 + 80 * t) (hp σ) pc (LO i o5 o6 o7) []
end LAWROWS
