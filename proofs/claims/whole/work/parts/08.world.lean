/-! the memory: numbers, long numbers, references (the index of the thing; its tag is told by where it lies), what is there -/
abbrev Mem : Type := (Nat → Nat → Nat → Int32) × (Nat → Nat → Nat → Int64) × (Nat → Nat → Nat → Option Nat) × (Nat → Nat → Bool)
def mI (σ : Mem) (t i k : Nat) : Int32 := σ.1 t i k
def mL (σ : Mem) (t i k : Nat) : Int64 := σ.2.1 t i k
def mR (σ : Mem) (t i k : Nat) : Option Nat := σ.2.2.1 t i k
def mV (σ : Mem) (t i : Nat) : Bool := σ.2.2.2 t i
def sI (σ : Mem) (t i k : Nat) (v : Int32) : Mem := (fun t' i' k' => if t' = t ∧ i' = i ∧ k' = k then v else σ.1 t' i' k', σ.2)
def sL (σ : Mem) (t i k : Nat) (v : Int64) : Mem := (σ.1, fun t' i' k' => if t' = t ∧ i' = i ∧ k' = k then v else σ.2.1 t' i' k', σ.2.2)
def sR (σ : Mem) (t i k : Nat) (v : Option Nat) : Mem := (σ.1, σ.2.1, fun t' i' k' => if t' = t ∧ i' = i ∧ k' = k then v else σ.2.2.1 t' i' k', σ.2.2.2)
def sV (σ : Mem) (t i : Nat) : Mem := (σ.1, σ.2.1, σ.2.2.1, fun t' i' => if t' = t ∧ i' = i then true else σ.2.2.2 t' i')
/-- the cell of the handle (t, i), by its tag -/
def hb' (t i : Nat) (a : Nat → Int32) (b : Nat → Int64) (r : Nat → Option Nat) : Option AE := match t with
  | 0 => some (.inl (1, 1, .inr (.inl b)))
  | 1 => some (.inr (8, [vR (some (2, 0)), vR (some (5, 0)), vR (some (7, 0)), vR (some (11, 0)), vR (some (14, 0)), vI (a 5), vI (a 6), vI (a 7)]))
  | 2 => some (.inr (1, [vR (some (3, 0)), vR (some (4, 0))]))
  | 3 => some (.inl (3, 16, .inr (.inr (fun j => (r j).map (Prod.mk 20)))))
  | 4 => some (.inl (2, 16, .inl a))
  | 5 => some (.inr (0, [vR (some (6, 0)), vI (a 1)]))
  | 6 => some (.inl (4, 40, .inr (.inr (fun j => (r j).map (Prod.mk 21)))))
  | 7 => some (.inr (7, [vR (some (2, 0)), vR (some (8, 0)), vR (some (9, 0)), vR (some (10, 0)), vI (a 4)]))
  | 8 => some (.inl (0, 16, .inl a))
  | 9 => some (.inl (0, 4, .inl a))
  | 10 => some (.inl (0, 5, .inl a))
  | 11 => some (.inr (2, [vR (some (2, 0)), vR (some (5, 0)), vR (some (7, 0)), vR (some (12, 0)), vR (some (13, 0)), vI (a 5)]))
  | 12 => some (.inl (4, 40, .inr (.inr (fun j => (r j).map (Prod.mk 21)))))
  | 13 => some (.inl (2, 40, .inl a))
  | 14 => some (.inr (6, [vR (some (15, 0)), vR (some (17, 0)), vI (a 2), vR (some (18, 0)), vR (some (19, 0))]))
  | 15 => some (.inl (6, 5, .inr (.inr (fun j => if j < 5 then some (16, j) else none))))
  | 16 => some (.inl (0, 60, .inl a))
  | 17 => some (.inl (5, 8, .inr (.inr (fun j => (r j).map (Prod.mk 23)))))
  | 18 => some (.inl (1, 61, .inr (.inl b)))
  | 19 => some (.inl (0, 61, .inl a))
  | 20 => some (.inr (4, [vI (a 0), vI (a 1), vI (a 2), vI (a 3), vI (a 4), vI (a 5), vL (b 6)]))
  | 21 => some (.inr (3, [vI (a 0), vI (a 1), vI (a 2), vI (a 3), vI (a 4), vI (a 5), vL (b 6), vR (some (22, i))]))
  | 22 => some (.inl (0, 60, .inl a))
  | 23 => some (.inr (5, [vI (a 0), vI (a 1), vI (a 2), vI (a 3)]))
  | 30 => some (.inr (9, [vI (a 0), vR (some (31, 0)), vR (some (32, 0)), vR (some (33, 0)), vR (some (34, 0)), vR (some (35, 0)), vR (some (36, 0)), vR (some (37, 0)), vI (a 8), vI (a 9), vR (some (40, 0)), vR (some (41, 0)), vR (some (42, 0)), vR (some (43, 0)), vR (some (44, 0)), vR (some (45, 0)), vR (some (46, 0)), vR (some (47, 0)), vR (some (48, 0)), vR (some (49, 0)), vI (a 20), vR (some (51, 0)), vI (a 22), vR (some (53, 0)), vR (some (54, 0)), vR (some (55, 0)), vR (some (56, 0)), vR (some (57, 0)), vR (some (58, 0)), vR (some (59, 0)), vR (some (60, 0)), vR (some (61, 0)), vI (a 32), vR (some (63, 0)), vR (some (64, 0))]))
  | 31 => some (.inl (0, 16, .inl a))
  | 32 => some (.inl (0, 16, .inl a))
  | 33 => some (.inl (0, 16, .inl a))
  | 34 => some (.inl (0, 16, .inl a))
  | 35 => some (.inl (0, 16, .inl a))
  | 36 => some (.inl (1, 16, .inr (.inl b)))
  | 37 => some (.inl (2, 16, .inl a))
  | 40 => some (.inl (0, 40, .inl a))
  | 41 => some (.inl (0, 40, .inl a))
  | 42 => some (.inl (0, 40, .inl a))
  | 43 => some (.inl (0, 40, .inl a))
  | 44 => some (.inl (0, 40, .inl a))
  | 45 => some (.inl (0, 40, .inl a))
  | 46 => some (.inl (0, 40, .inl a))
  | 47 => some (.inl (0, 40, .inl a))
  | 48 => some (.inl (1, 40, .inr (.inl b)))
  | 49 => some (.inl (0, 2400, .inl a))
  | 51 => some (.inl (0, 16, .inl a))
  | 53 => some (.inl (0, 5, .inl a))
  | 54 => some (.inl (0, 5, .inl a))
  | 55 => some (.inl (2, 40, .inl a))
  | 56 => some (.inl (2, 40, .inl a))
  | 57 => some (.inl (0, 300, .inl a))
  | 58 => some (.inl (0, 8, .inl a))
  | 59 => some (.inl (0, 8, .inl a))
  | 60 => some (.inl (0, 8, .inl a))
  | 61 => some (.inl (2, 8, .inl a))
  | 63 => some (.inl (1, 61, .inr (.inl b)))
  | 64 => some (.inl (0, 61, .inl a))
  | _ => none
def hp (σ : Mem) : Hp := fun q => if mV σ q.1 q.2 = true then hb' q.1 q.2 (mI σ q.1 q.2) (mL σ q.1 q.2) (mR σ q.1 q.2) else none
theorem hp_e {σ : Mem} {t i : Nat} {x : AE} (hb : hb' t i (mI σ t i) (mL σ t i) (mR σ t i) = some x) : ∀ e, hp σ (t, i) = some e → e = x := fun e he => by
  unfold hp at he
  split at he
  · exact Option.some.inj (he.symm.trans hb)
  · cases he
theorem hp_v {σ : Mem} {t i : Nat} (h : hp σ (t, i) ≠ none) : mV σ t i = true := by
  unfold hp at h
  split at h
  · assumption
  · exact absurd rfl h
theorem mI_sI_self {σ : Mem} {t i k : Nat} {v : Int32} : mI (sI σ t i k v) t i = upd (mI σ t i) k v := by
  funext j
  simp [mI, sI, upd]
theorem mL_sL_self {σ : Mem} {t i k : Nat} {v : Int64} : mL (sL σ t i k v) t i = vp_updL (mL σ t i) k v := by
  funext j
  simp [mL, sL, vp_updL]
theorem mR_sR_self {σ : Mem} {t i k : Nat} {v : Option Nat} : mR (sR σ t i k v) t i = va_up (mR σ t i) k v := by
  funext j
  simp [mR, sR, va_up]
theorem hp_sI {σ : Mem} {t i k : Nat} {v : Int32} {x : AE} (hv : mV σ t i = true) (hb : hb' t i (upd (mI σ t i) k v) (mL σ t i) (mR σ t i) = some x) : up (hp σ) (t, i) x = hp (sI σ t i k v) := by
  funext q
  obtain ⟨t', i'⟩ := q
  unfold up
  by_cases e : (t', i') = (t, i)
  · cases e
    rw [if_pos rfl]
    unfold hp
    rw [if_pos (show mV (sI σ t i k v) t i = true from hv), mI_sI_self]
    exact hb.symm
  · rw [if_neg e]
    unfold hp
    have h1 : mI (sI σ t i k v) t' i' = mI σ t' i' := by
      funext j
      have : ¬ (t' = t ∧ i' = i ∧ j = k) := fun h => e (by rw [h.1, h.2.1])
      simp [mI, sI, this]
    show (if mV σ t' i' = true then _ else none) = if mV (sI σ t i k v) t' i' = true then _ else none
    rw [h1]
    rfl
theorem hp_sL {σ : Mem} {t i k : Nat} {v : Int64} {x : AE} (hv : mV σ t i = true) (hb : hb' t i (mI σ t i) (vp_updL (mL σ t i) k v) (mR σ t i) = some x) : up (hp σ) (t, i) x = hp (sL σ t i k v) := by
  funext q
  obtain ⟨t', i'⟩ := q
  unfold up
  by_cases e : (t', i') = (t, i)
  · cases e
    rw [if_pos rfl]
    unfold hp
    rw [if_pos (show mV (sL σ t i k v) t i = true from hv), mL_sL_self]
    exact hb.symm
  · rw [if_neg e]
    unfold hp
    have h1 : mL (sL σ t i k v) t' i' = mL σ t' i' := by
      funext j
      have : ¬ (t' = t ∧ i' = i ∧ j = k) := fun h => e (by rw [h.1, h.2.1])
      simp [mL, sL, this]
    show (if mV σ t' i' = true then _ else none) = if mV (sL σ t i k v) t' i' = true then _ else none
    rw [h1]
    rfl
theorem hp_sR {σ : Mem} {t i k : Nat} {v : Option Nat} {x : AE} (hv : mV σ t i = true) (hb : hb' t i (mI σ t i) (mL σ t i) (va_up (mR σ t i) k v) = some x) : up (hp σ) (t, i) x = hp (sR σ t i k v) := by
  funext q
  obtain ⟨t', i'⟩ := q
  unfold up
  by_cases e : (t', i') = (t, i)
  · cases e
    rw [if_pos rfl]
    unfold hp
    rw [if_pos (show mV (sR σ t i k v) t i = true from hv), mR_sR_self]
    exact hb.symm
  · rw [if_neg e]
    unfold hp
    have h1 : mR (sR σ t i k v) t' i' = mR σ t' i' := by
      funext j
      have : ¬ (t' = t ∧ i' = i ∧ j = k) := fun h => e (by rw [h.1, h.2.1])
      simp [mR, sR, this]
    show (if mV σ t' i' = true then _ else none) = if mV (sR σ t i k v) t' i' = true then _ else none
    rw [h1]
    rfl
theorem map_up {r : Nat → Option Nat} {t k i : Nat} : (fun j => (va_up r k (some i) j).map (Prod.mk t)) = va_up (fun j => (r j).map (Prod.mk t)) k (some (t, i)) := by
  funext j
  unfold va_up
  split <;> rfl
section WROWS
variable {l : Launch} {D : va_G} {dA : Nat → ClassId} {H0 : Heap} {y : YY} {h0 : Hx} {Po : Option AV → Hp → Prop} {k n : Nat} {σ : Mem} {pc pc' : Nat} {lo : List (Option AV)} {st : List AV}
theorem j_live {t i : Nat} {v : AV} {s0 : List AV} (hv : v = vR (some (t, i))) (hm : v ∈ s0) (kk : mV σ t i = true → J l D dA H0 y h0 Po k n (hp σ) pc lo s0) : J l D dA H0 y h0 Po k n (hp σ) pc lo s0 := by
  subst hv
  intro p e s m args below meth c hC ad0 ad H locs ls hR hG hlc hL hS hl
  exact kk (hp_v (hS _ hm)) p e s m args below meth c hC ad0 ad H locs ls hR hG hlc hL hS hl
theorem j_pi {t i ix c kf : Nat} {C : String} {T : u_T} {N : Nat} {fs : List AV} {x : Int32} {ty : FieldType} (hf : FG y.2.2.1 ix c kf C T N) (hT : TT T N) (hty : parseFieldDescriptor (T kf).2.2.1 = some ty) (hfi : (T kf).2.2.2 = false) (hvt : narrow ty (.int x) = .int x ∧ fits ty (.int x) = true) (hb : hb' t i (mI σ t i) (mL σ t i) (mR σ t i) = some (.inr (c, fs))) (hlen : kf < fs.length) (hw : hb' t i (upd (mI σ t i) kf x) (mL σ t i) (mR σ t i) = some (.inr (c, fs.set kf (vI x)))) (hn : pc + 3 = pc') (hd : decode y.1 pc = .ok (.putfield ix, 3)) (kk : J l D dA H0 y h0 Po k n (hp (sI σ t i kf x)) pc' lo st) : J l D dA H0 y h0 Po k n (hp σ) pc lo (vI x :: vR (some (t, i)) :: st) :=
  j_live rfl (List.mem_cons_of_mem _ List.mem_cons_self) fun hv => j_putf hf hT hty (Or.inl hfi) (fun _ => hvt) (hp_e hb) hlen hn hd (by rw [hp_sI hv hw]; exact kk)
theorem j_pl {t i ix c kf : Nat} {C : String} {T : u_T} {N : Nat} {fs : List AV} {x : Int64} (hf : FG y.2.2.1 ix c kf C T N) (hT : TT T N) (hty : parseFieldDescriptor (T kf).2.2.1 = some .long) (hfi : (T kf).2.2.2 = false) (hb : hb' t i (mI σ t i) (mL σ t i) (mR σ t i) = some (.inr (c, fs))) (hlen : kf < fs.length) (hw : hb' t i (mI σ t i) (vp_updL (mL σ t i) kf x) (mR σ t i) = some (.inr (c, fs.set kf (vL x)))) (hn : pc + 3 = pc') (hd : decode y.1 pc = .ok (.putfield ix, 3)) (kk : J l D dA H0 y h0 Po k n (hp (sL σ t i kf x)) pc' lo st) : J l D dA H0 y h0 Po k n (hp σ) pc lo (vL x :: vR (some (t, i)) :: st) :=
  j_live rfl (List.mem_cons_of_mem _ List.mem_cons_self) fun hv => j_putf hf hT hty (Or.inl hfi) (fun _ => ⟨rfl, rfl⟩) (hp_e hb) hlen hn hd (by rw [hp_sL hv hw]; exact kk)
theorem j_si {t i : Nat} {N : Nat} {j x : Int32} (hb : ∀ a b r, hb' t i a b r = some (.inl (0, N, .inl a))) (hi : vp_in j N) (hn : pc + 1 = pc') (hd : decode y.1 pc = .ok (.iastore, 1)) (kk : J l D dA H0 y h0 Po k n (hp (sI σ t i j.toNatClampNeg x)) pc' lo st) : J l D dA H0 y h0 Po k n (hp σ) pc lo (vI x :: vI j :: vR (some (t, i)) :: st) :=
  j_live rfl (List.mem_cons_of_mem _ (List.mem_cons_of_mem _ List.mem_cons_self)) fun hv => j_iast (hp_e (hb _ _ _)) hi hn hd (by rw [hp_sI hv (hb _ _ _)]; exact kk)
theorem j_sz {t i : Nat} {N : Nat} {j x : Int32} (hb : ∀ a b r, hb' t i a b r = some (.inl (2, N, .inl a))) (hi : vp_in j N) (hn : pc + 1 = pc') (hd : decode y.1 pc = .ok (.bastore, 1)) (kk : J l D dA H0 y h0 Po k n (hp (sI σ t i j.toNatClampNeg (vp_nar .boolean x))) pc' lo st) : J l D dA H0 y h0 Po k n (hp σ) pc lo (vI x :: vI j :: vR (some (t, i)) :: st) :=
  j_live rfl (List.mem_cons_of_mem _ (List.mem_cons_of_mem _ List.mem_cons_self)) fun hv => j_bast (hp_e (hb _ _ _)) hi hn hd (by rw [hp_sI hv (hb _ _ _)]; exact kk)
theorem j_sl {t i : Nat} {N : Nat} {j : Int32} {x : Int64} (hb : ∀ a b r, hb' t i a b r = some (.inl (1, N, .inr (.inl b)))) (hi : vp_in j N) (hn : pc + 1 = pc') (hd : decode y.1 pc = .ok (.lastore, 1)) (kk : J l D dA H0 y h0 Po k n (hp (sL σ t i j.toNatClampNeg x)) pc' lo st) : J l D dA H0 y h0 Po k n (hp σ) pc lo (vL x :: vI j :: vR (some (t, i)) :: st) :=
  j_live rfl (List.mem_cons_of_mem _ (List.mem_cons_of_mem _ List.mem_cons_self)) fun hv => j_last (hp_e (hb _ _ _)) hi hn hd (by rw [hp_sL hv (hb _ _ _)]; exact kk)
theorem j_sr {t i tt z : Nat} {a N c : Nat} {r : vw_C} {fs : List AV} {j : Int32} (ha : a < 7) (hta : tyA a = .object r.1) (hb : ∀ a1 b r, hb' t i a1 b r = some (.inl (a, N, .inr (.inr (fun j => (r j).map (Prod.mk tt)))))) (hz : hb' tt z (mI σ tt z) (mL σ tt z) (mR σ tt z) = some (.inr (c, fs))) (hc : vwCl[c]? = some r) (hi : vp_in j N) (hn : pc + 1 = pc') (hd : decode y.1 pc = .ok (.aastore, 1)) (kk : J l D dA H0 y h0 Po k n (hp (sR σ t i j.toNatClampNeg (some z))) pc' lo st) : J l D dA H0 y h0 Po k n (hp σ) pc lo (vR (some (tt, z)) :: vI j :: vR (some (t, i)) :: st) :=
  j_live rfl (List.mem_cons_of_mem _ (List.mem_cons_of_mem _ List.mem_cons_self)) fun hv => j_aast (C := r.1) ha hta (hp_e (hb _ _ _)) (hp_e hz) hc hi hn hd (by rw [← map_up, hp_sR hv (hb _ _ _)]; exact kk)
/-- calls whose callee makes nothing: a value, or none -/
theorem j_cv1 {yn : MethodName} {Y : YY} {as : List AV} {q : Hd} {ix c np : Nat} {fs : List AV} {h h1 : Hp} {v : AV} (hM : M l D dA H0 yn Y (vR (some q) :: as) h (fun r h' => r = some v ∧ h' = h1)) (cw : CV y.2.2.1 ix yn Y np) (hr : RM y Y) (hq : ∀ e, h q = some e → e = .inr (c, fs)) (hc : (vwCl[c]?).map (fun r => r.1) = some yn.cls) (hlen : as.length = np) (hw : (st.map wd).sum ≤ 8) (hz : Y.2.2.2.2.1.cells = 0 ∧ Y.2.2.2.2.1.slots = 0) (hroom : k ≤ y.2.2.2.2.1.cells ∧ n ≤ y.2.2.2.2.1.slots) {s0 : List AV} (hs : s0 = as.reverse ++ vR (some q) :: st) (hn : pc + 3 = pc') (hd : decode y.1 pc = .ok (.invokevirtual ix, 3)) (kk : J l D dA H0 y h0 Po k n h1 pc' lo (v :: st)) : J l D dA H0 y h0 Po k n h pc lo s0 :=
  j_callV hM cw hr hq hc hlen hw (by rw [hz.1, hz.2]; exact hroom) hs hn hd (fun r h' hp => by rw [hp.1, hp.2, hz.1, hz.2]; exact kk)
theorem j_cv0 {yn : MethodName} {Y : YY} {as : List AV} {q : Hd} {ix c np : Nat} {fs : List AV} {h h1 : Hp} (hM : M l D dA H0 yn Y (vR (some q) :: as) h (fun r h' => r = none ∧ h' = h1)) (cw : CV y.2.2.1 ix yn Y np) (hr : RM y Y) (hq : ∀ e, h q = some e → e = .inr (c, fs)) (hc : (vwCl[c]?).map (fun r => r.1) = some yn.cls) (hlen : as.length = np) (hw : (st.map wd).sum ≤ 8) (hz : Y.2.2.2.2.1.cells = 0 ∧ Y.2.2.2.2.1.slots = 0) (hroom : k ≤ y.2.2.2.2.1.cells ∧ n ≤ y.2.2.2.2.1.slots) {s0 : List AV} (hs : s0 = as.reverse ++ vR (some q) :: st) (hn : pc + 3 = pc') (hd : decode y.1 pc = .ok (.invokevirtual ix, 3)) (kk : J l D dA H0 y h0 Po k n h1 pc' lo st) : J l D dA H0 y h0 Po k n h pc lo s0 :=
  j_callV hM cw hr hq hc hlen hw (by rw [hz.1, hz.2]; exact hroom) hs hn hd (fun r h' hp => by rw [hp.1, hp.2, hz.1, hz.2]; exact kk)
theorem j_cs1 {yn : MethodName} {Y : YY} {as : List AV} {ix np : Nat} {h h1 : Hp} {v : AV} (hM : M l D dA H0 yn Y as h (fun r h' => r = some v ∧ h' = h1)) (cw : CS y.2.2.1 ix yn Y np) (hr : RM y Y) (hlen : as.length = np) (hw : (st.map wd).sum ≤ 8) (hz : Y.2.2.2.2.1.cells = 0 ∧ Y.2.2.2.2.1.slots = 0) (hroom : k ≤ y.2.2.2.2.1.cells ∧ n ≤ y.2.2.2.2.1.slots) {s0 : List AV} (hs : s0 = as.reverse ++ st) (hn : pc + 3 = pc') (hd : decode y.1 pc = .ok (.invokestatic ix, 3)) (kk : J l D dA H0 y h0 Po k n h1 pc' lo (v :: st)) : J l D dA H0 y h0 Po k n h pc lo s0 :=
  j_callS hM cw hr hlen hw (by rw [hz.1, hz.2]; exact hroom) hs hn hd (fun r h' hp => by rw [hp.1, hp.2, hz.1, hz.2]; exact kk)
theorem j_cs0 {yn : MethodName} {Y : YY} {as : List AV} {ix np : Nat} {h h1 : Hp} (hM : M l D dA H0 yn Y as h (fun r h' => r = none ∧ h' = h1)) (cw : CS y.2.2.1 ix yn Y np) (hr : RM y Y) (hlen : as.length = np) (hw : (st.map wd).sum ≤ 8) (hz : Y.2.2.2.2.1.cells = 0 ∧ Y.2.2.2.2.1.slots = 0) (hroom : k ≤ y.2.2.2.2.1.cells ∧ n ≤ y.2.2.2.2.1.slots) {s0 : List AV} (hs : s0 = as.reverse ++ st) (hn : pc + 3 = pc') (hd : decode y.1 pc = .ok (.invokestatic ix, 3)) (kk : J l D dA H0 y h0 Po k n h1 pc' lo st) : J l D dA H0 y h0 Po k n h pc lo s0 :=
  j_callS hM cw hr hlen hw (by rw [hz.1, hz.2]; exact hroom) hs hn hd (fun r h' hp => by rw [hp.1, hp.2, hz.1, hz.2]; exact kk)
end WROWS
/-! what the functions of the program are made of -/
def inR (i : Int32) (n : Nat) : Bool := decide (0 ≤ i.toInt) && decide (i.toInt < n)
theorem inR_in {i : Int32} {n : Nat} (h : inR i n = true) : vp_in i n := by
  simp only [inR, Bool.and_eq_true, decide_eq_true_eq] at h
  exact vp_in_iff.mpr h
abbrev ix (i : Int32) : Nat := i.toNatClampNeg
def bz (a : Int32) : Bool := a == 0 || a == 1
theorem bz_n {a : Int32} (h : bz a = true) : narrow .boolean (.int a) = .int a := by
  simp only [bz, Bool.or_eq_true, beq_iff_eq] at h
  rcases h with rfl | rfl <;> rfl
abbrev zn (x : Int32) : Int32 := vp_nar .boolean x
def FU : Nat := 1000
def loopF {S E : Type} : Nat → (S → Option (S ⊕ E)) → S → Option E
  | 0, _, _ => none
  | n + 1, f, s => match f s with
    | none => none
    | some (.inl s') => loopF n f s'
    | some (.inr e) => some e
theorem loopF_succ {S E : Type} {n : Nat} {f : S → Option (S ⊕ E)} {s : S} {e : E} (h : loopF (n + 1) f s = some e) : (∃ s', f s = some (.inl s') ∧ loopF n f s' = some e) ∨ f s = some (.inr e) := by
  unfold loopF at h
  cases hf : f s with
  | none => rw [hf] at h; cases h
  | some o =>
    rw [hf] at h
    cases o with
    | inl s' => exact Or.inl ⟨s', rfl, h⟩
    | inr e' => cases h; exact Or.inr rfl
theorem of_ite {c : Prop} [Decidable c] {α : Type} {a : Option α} {r : α} (h : (if c then a else none) = some r) : c ∧ a = some r := by
  by_cases hc : c
  · rw [if_pos hc] at h; exact ⟨hc, h⟩
  · rw [if_neg hc] at h; cases h
theorem of_bind {α β : Type} {o : Option α} {f : α → Option β} {r : β} (h : o.bind f = some r) : ∃ x, o = some x ∧ f x = some r := by
  cases o with
  | none => cases h
  | some x => exact ⟨x, rfl, h⟩
theorem of_elim {α β : Type} {o : Option α} {b : Option β} {f : α → Option β} {r : β} (h : o.elim b f = some r) : (o = none ∧ b = some r) ∨ ∃ x, o = some x ∧ f x = some r := by
  cases o with
  | none => exact Or.inl ⟨rfl, h⟩
  | some x => exact Or.inr ⟨x, rfl, h⟩
theorem i32ne {x v : Int32} (h : ¬ x = v) : x.toInt ≠ v.toInt := fun e => h (Int32.toInt_inj.mp e)
theorem lt_b {a b : Nat} (h : Nat.ble (a + 1) b = true) : a < b := Nat.le_of_ble_eq_true h
theorem hp_no {σ : Mem} {t i : Nat} (h : mV σ t i = false) : hp σ (t, i) = none := by
  unfold hp
  rw [if_neg (by rw [h]; exact fun z => by cases z)]
section TOPS
variable {l : Launch} {D : va_G} {dA : Nat → ClassId} {H0 : Heap} {y : YY} {h0 : Hx} {Po : Option AV → Hp → Prop} {k n : Nat} {σ : Mem} {h : Hp} {pc pc' : Nat} {lo : List (Option AV)} {st : List AV}
theorem j_top {v v' : AV} (hv : v = v') (kk : J l D dA H0 y h0 Po k n h pc lo (v' :: st)) : J l D dA H0 y h0 Po k n h pc lo (v :: st) := by rw [hv]; exact kk
theorem j_grid {i : Int32} (hi : vp_in i 5) (hn : pc + 1 = pc') (hd : decode y.1 pc = .ok (.aaload, 1)) (kk : J l D dA H0 y h0 Po k n (hp σ) pc' lo (vR (some (16, ix i)) :: st)) : J l D dA H0 y h0 Po k n (hp σ) pc lo (vI i :: vR (some (15, 0)) :: st) :=
  j_aald (a := 6) (N := 5) (f := fun j => if j < 5 then some (16, j) else none) ⟨by decide, by decide⟩ (hp_e rfl) hi hn hd (j_top (congrArg vR (if_pos (Nat.not_le.mp fun q => hi (Or.inr q)))) kk)
end TOPS
theorem le_b {a b : Nat} (h : Nat.ble a b = true) : a ≤ b := Nat.le_of_ble_eq_true h
