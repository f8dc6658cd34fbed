/-! locals by their places -/
def lgt : List (Option AV) → Nat → Option AV
  | [], _ => none
  | o :: _, 0 => o
  | _ :: t, k + 1 => lgt t k
def clr (o : Option AV) : Option AV := match o with
  | some (.inr (.inl _)) => none
  | o => o
def ls1 : List (Option AV) → Nat → AV → List (Option AV)
  | [], _, _ => []
  | _ :: t, 0, v => some v :: t
  | o :: t, 1, v => clr o :: ls1 t 0 v
  | o :: t, k + 2, v => o :: ls1 t (k + 1) v
def nx0 : List (Option AV) → List (Option AV)
  | [] => []
  | _ :: t => none :: t
def ls2 : List (Option AV) → Nat → AV → List (Option AV)
  | [], _, _ => []
  | _ :: t, 0, v => some v :: nx0 t
  | o :: t, 1, v => clr o :: ls2 t 0 v
  | o :: t, k + 2, v => o :: ls2 t (k + 1) v
theorem pr_get {ad : Hd → Nat} {v : AV} : ∀ (lo : List (Option AV)) (k i : Nat), lgt lo k = some v → (i + k, cv ad v) ∈ pr ad i lo
  | [], k, i, h => by cases h
  | none :: t, 0, i, h => by cases h
  | some x :: t, 0, i, h => by cases h; exact List.mem_cons_self
  | none :: t, k + 1, i, h => by
    have := pr_get (ad := ad) t k (i + 1) h
    rw [show i + (k + 1) = i + 1 + k by omega]
    exact this
  | some x :: t, k + 1, i, h => by
    have := pr_get (ad := ad) t k (i + 1) h
    rw [show i + (k + 1) = i + 1 + k by omega]
    exact List.mem_cons_of_mem _ this
theorem lgt_mem {v : AV} : ∀ (lo : List (Option AV)) (k : Nat), lgt lo k = some v → some v ∈ lo
  | [], k, h => by cases h
  | o :: t, 0, h => by cases (show o = some v from h); exact List.mem_cons_self
  | o :: t, k + 1, h => List.mem_cons_of_mem _ (lgt_mem t k h)
theorem pr_le {ad : Hd → Nat} {q : Nat × Value} : ∀ (lo : List (Option AV)) (i : Nat), q ∈ pr ad i lo → i ≤ q.1
  | [], i, h => by cases h
  | none :: t, i, h => by have := pr_le t (i + 1) h; omega
  | some x :: t, i, h => by
    rcases List.mem_cons.mp h with rfl | h
    · exact Nat.le_refl _
    · have := pr_le t (i + 1) h; omega
theorem cv_cat2 {ad : Hd → Nat} {v : AV} (h : (cv ad v).category = 2) : clr (some v) = none := by
  rcases v with x | x | _ | q
  · cases h
  · rfl
  · cases h
  · cases h
def kp1 (i : Nat) (q : Nat × Value) : Bool := !(q.1 == i) && !(q.1 + 1 == i && q.2.category == 2)
def kp2 (i : Nat) (q : Nat × Value) : Bool := !(q.1 == i) && (!(q.1 == i + 1) && !(q.1 + 1 == i && q.2.category == 2))
theorem kp1_gt {i : Nat} {q : Nat × Value} (h : i < q.1) : kp1 i q = true := by
  simp [kp1]; omega
theorem kp1_lt {i : Nat} {q : Nat × Value} (h : q.1 + 1 < i) : kp1 i q = true := by
  simp [kp1]; omega
theorem kp2_gt {i : Nat} {q : Nat × Value} (h : i + 1 < q.1) : kp2 i q = true := by
  simp [kp2]; omega
theorem kp2_lt {i : Nat} {q : Nat × Value} (h : q.1 + 1 < i) : kp2 i q = true := by
  simp [kp2]; omega
theorem pr_ls1 {ad : Hd → Nat} {v : AV} {q : Nat × Value} : ∀ (lo : List (Option AV)) (k i : Nat), q ∈ pr ad i (ls1 lo k v) → q = (i + k, cv ad v) ∨ (q ∈ pr ad i lo ∧ kp1 (i + k) q = true)
  | [], k, i, h => by simp [ls1, pr] at h
  | o :: t, 0, i, h => by
    rcases List.mem_cons.mp h with rfl | h2
    · exact Or.inl rfl
    · refine Or.inr ⟨?_, kp1_gt (by have := pr_le t (i + 1) h2; omega)⟩
      cases o with
      | none => exact h2
      | some x => exact List.mem_cons_of_mem _ h2
  | none :: t, 1, i, h => by
    rcases pr_ls1 t 0 (i + 1) h with h | ⟨h1, h2⟩
    · exact Or.inl h
    · exact Or.inr ⟨h1, h2⟩
  | some x :: t, 1, i, h => by
    have key : q ∈ pr ad (i + 1) (ls1 t 0 v) → q = (i + 1, cv ad v) ∨ (q ∈ pr ad i (some x :: t) ∧ kp1 (i + 1) q = true) := fun h => by
      rcases pr_ls1 t 0 (i + 1) h with h | ⟨h1, h2⟩
      · exact Or.inl h
      · exact Or.inr ⟨List.mem_cons_of_mem _ h1, h2⟩
    by_cases hc : (cv ad x).category = 2
    · rw [ls1, cv_cat2 hc] at h
      exact key h
    · rcases x with z | z | _ | z
      · rcases List.mem_cons.mp h with rfl | h
        · exact Or.inr ⟨List.mem_cons_self, by simp [kp1, cv, Value.category]⟩
        · exact key h
      · exact absurd rfl hc
      · rcases List.mem_cons.mp h with rfl | h
        · exact Or.inr ⟨List.mem_cons_self, by simp [kp1, cv, Value.category]⟩
        · exact key h
      · rcases List.mem_cons.mp h with rfl | h
        · exact Or.inr ⟨List.mem_cons_self, by simp [kp1, cv, Value.category]⟩
        · exact key h
  | none :: t, k + 2, i, h => by
    rcases pr_ls1 t (k + 1) (i + 1) h with h | ⟨h1, h2⟩
    · exact Or.inl (by rw [h]; congr 1; omega)
    · exact Or.inr ⟨h1, by rw [show i + (k + 2) = i + 1 + (k + 1) by omega]; exact h2⟩
  | some x :: t, k + 2, i, h => by
    rcases List.mem_cons.mp h with rfl | h
    · exact Or.inr ⟨List.mem_cons_self, kp1_lt (by show i + 1 < _; omega)⟩
    · rcases pr_ls1 t (k + 1) (i + 1) h with h | ⟨h1, h2⟩
      · exact Or.inl (by rw [h]; congr 1; omega)
      · exact Or.inr ⟨List.mem_cons_of_mem _ h1, by rw [show i + (k + 2) = i + 1 + (k + 1) by omega]; exact h2⟩
theorem pr_ls2 {ad : Hd → Nat} {v : AV} {q : Nat × Value} : ∀ (lo : List (Option AV)) (k i : Nat), q ∈ pr ad i (ls2 lo k v) → q = (i + k, cv ad v) ∨ (q ∈ pr ad i lo ∧ kp2 (i + k) q = true)
  | [], k, i, h => by simp [ls2, pr] at h
  | o :: [], 0, i, h => by
    rcases List.mem_cons.mp h with rfl | h2
    · exact Or.inl rfl
    · cases h2
  | o :: o2 :: t, 0, i, h => by
    rcases List.mem_cons.mp h with rfl | h2
    · exact Or.inl rfl
    · have h3 : q ∈ pr ad (i + 1 + 1) t := h2
      refine Or.inr ⟨?_, kp2_gt (by have := pr_le t (i + 1 + 1) h3; omega)⟩
      cases o <;> cases o2 <;> simp [pr, h3]
  | none :: t, 1, i, h => by
    rcases pr_ls2 t 0 (i + 1) h with h | ⟨h1, h2⟩
    · exact Or.inl h
    · exact Or.inr ⟨h1, h2⟩
  | some x :: t, 1, i, h => by
    have key : q ∈ pr ad (i + 1) (ls2 t 0 v) → q = (i + 1, cv ad v) ∨ (q ∈ pr ad i (some x :: t) ∧ kp2 (i + 1) q = true) := fun h => by
      rcases pr_ls2 t 0 (i + 1) h with h | ⟨h1, h2⟩
      · exact Or.inl h
      · exact Or.inr ⟨List.mem_cons_of_mem _ h1, h2⟩
    by_cases hc : (cv ad x).category = 2
    · rw [ls2, cv_cat2 hc] at h
      exact key h
    · rcases x with z | z | _ | z
      · rcases List.mem_cons.mp h with rfl | h
        · exact Or.inr ⟨List.mem_cons_self, by simp [kp2, cv, Value.category]; omega⟩
        · exact key h
      · exact absurd rfl hc
      · rcases List.mem_cons.mp h with rfl | h
        · exact Or.inr ⟨List.mem_cons_self, by simp [kp2, cv, Value.category]; omega⟩
        · exact key h
      · rcases List.mem_cons.mp h with rfl | h
        · exact Or.inr ⟨List.mem_cons_self, by simp [kp2, cv, Value.category]; omega⟩
        · exact key h
  | none :: t, k + 2, i, h => by
    rcases pr_ls2 t (k + 1) (i + 1) h with h | ⟨h1, h2⟩
    · exact Or.inl (by rw [h]; congr 1; omega)
    · exact Or.inr ⟨h1, by rw [show i + (k + 2) = i + 1 + (k + 1) by omega]; exact h2⟩
  | some x :: t, k + 2, i, h => by
    rcases List.mem_cons.mp h with rfl | h
    · exact Or.inr ⟨List.mem_cons_self, kp2_lt (by show i + 1 < _; omega)⟩
    · rcases pr_ls2 t (k + 1) (i + 1) h with h | ⟨h1, h2⟩
      · exact Or.inl (by rw [h]; congr 1; omega)
      · exact Or.inr ⟨List.mem_cons_of_mem _ h1, by rw [show i + (k + 2) = i + 1 + (k + 1) by omega]; exact h2⟩
theorem clr_some {o : Option AV} {v : AV} (h : clr o = some v) : o = some v := by
  rcases o with _ | x | x | x
  · exact h
  · exact h
  · cases h
  · exact h
theorem ls1_mem {v z : AV} : ∀ (lo : List (Option AV)) (k : Nat), some z ∈ ls1 lo k v → z = v ∨ some z ∈ lo
  | [], k, h => by simp [ls1] at h
  | o :: t, 0, h => by
    rcases List.mem_cons.mp h with h | h
    · cases h; exact Or.inl rfl
    · exact Or.inr (List.mem_cons_of_mem _ h)
  | o :: t, 1, h => by
    rcases List.mem_cons.mp h with h | h
    · exact Or.inr (by rw [← clr_some h.symm]; exact List.mem_cons_self)
    · exact (ls1_mem t 0 h).imp id (List.mem_cons_of_mem _)
  | o :: t, k + 2, h => by
    rcases List.mem_cons.mp h with h | h
    · exact Or.inr (by rw [← h]; exact List.mem_cons_self)
    · exact (ls1_mem t (k + 1) h).imp id (List.mem_cons_of_mem _)
theorem ls2_mem {v z : AV} : ∀ (lo : List (Option AV)) (k : Nat), some z ∈ ls2 lo k v → z = v ∨ some z ∈ lo
  | [], k, h => by simp [ls2] at h
  | o :: [], 0, h => by
    rcases List.mem_cons.mp h with h2 | h2
    · cases h2; exact Or.inl rfl
    · cases h2
  | o :: o2 :: t, 0, h => by
    rcases List.mem_cons.mp h with h | h
    · cases h; exact Or.inl rfl
    · rcases List.mem_cons.mp h with h | h
      · cases h
      · exact Or.inr (List.mem_cons_of_mem _ (List.mem_cons_of_mem _ h))
  | o :: t, 1, h => by
    rcases List.mem_cons.mp h with h | h
    · exact Or.inr (by rw [← clr_some h.symm]; exact List.mem_cons_self)
    · exact (ls2_mem t 0 h).imp id (List.mem_cons_of_mem _)
  | o :: t, k + 2, h => by
    rcases List.mem_cons.mp h with h | h
    · exact Or.inr (by rw [← h]; exact List.mem_cons_self)
    · exact (ls2_mem t (k + 1) h).imp id (List.mem_cons_of_mem _)
theorem lv_less {ls : Array Slot} {nL : Nat} {l l' : List (Nat × Value)} (h : lv_has ls nL l) (hs : ∀ q ∈ l', q ∈ l) : lv_has ls nL l' := ⟨h.1, h.2.1, fun q hq => h.2.2 q (hs q hq)⟩
theorem okS_t {h : Hp} {v : AV} {st : List AV} (x : okS h (v :: st)) : okS h st := fun z hz => x z (List.mem_cons_of_mem _ hz)
theorem okS_h {h : Hp} {v : AV} {st : List AV} (x : okS h (v :: st)) : okV h v := x v List.mem_cons_self
theorem okS_c {h : Hp} {v : AV} {st : List AV} (a : okV h v) (x : okS h st) : okS h (v :: st) := fun z hz => by
  rcases List.mem_cons.mp hz with rfl | hz
  · exact a
  · exact x z hz
theorem okL_1 {h : Hp} {v : AV} {lo : List (Option AV)} {k : Nat} (x : okL h lo) (a : okV h v) : okL h (ls1 lo k v) := fun z hz => by
  rcases ls1_mem lo k hz with rfl | hz
  · exact a
  · exact x z hz
theorem okL_2 {h : Hp} {v : AV} {lo : List (Option AV)} {k : Nat} (x : okL h lo) (a : okV h v) : okL h (ls2 lo k v) := fun z hz => by
  rcases ls2_mem lo k hz with rfl | hz
  · exact a
  · exact x z hz
section ROWS
variable {l : Launch} {D : va_G} {dA : Nat → ClassId} {H0 : Heap} {y : YY} {h0 : Hx} {Po : Option AV → Hp → Prop} {k n : Nat} {h : Hp} {pc pc' : Nat} {lo : List (Option AV)} {st : List AV}

theorem j_iadd {a b : Int32} (hn : pc + 1 = pc') (hd : decode y.1 pc = .ok (.iadd, 1)) (kk : J l D dA H0 y h0 Po k n h pc' lo (vI (a + b) :: st)) : J l D dA H0 y h0 Po k n h pc lo (vI b :: vI a :: st) := by
  subst hn
  intro p e s m args below meth c hC ad0 ad H locs ls hR hG hlc hL hS hl
  refine lv_iadd hC.1 hC.2.1 hd ?_
  exact kk p e s m args below meth c hC ad0 ad H locs ls hR hG hlc hL (okS_c trivial (okS_t (okS_t hS))) hl
theorem j_isub {a b : Int32} (hn : pc + 1 = pc') (hd : decode y.1 pc = .ok (.isub, 1)) (kk : J l D dA H0 y h0 Po k n h pc' lo (vI (a - b) :: st)) : J l D dA H0 y h0 Po k n h pc lo (vI b :: vI a :: st) := by
  subst hn
  intro p e s m args below meth c hC ad0 ad H locs ls hR hG hlc hL hS hl
  refine lv_isub hC.1 hC.2.1 hd ?_
  exact kk p e s m args below meth c hC ad0 ad H locs ls hR hG hlc hL (okS_c trivial (okS_t (okS_t hS))) hl
theorem j_imul {a b : Int32} (hn : pc + 1 = pc') (hd : decode y.1 pc = .ok (.imul, 1)) (kk : J l D dA H0 y h0 Po k n h pc' lo (vI (a * b) :: st)) : J l D dA H0 y h0 Po k n h pc lo (vI b :: vI a :: st) := by
  subst hn
  intro p e s m args below meth c hC ad0 ad H locs ls hR hG hlc hL hS hl
  refine lv_imul hC.1 hC.2.1 hd ?_
  exact kk p e s m args below meth c hC ad0 ad H locs ls hR hG hlc hL (okS_c trivial (okS_t (okS_t hS))) hl
theorem j_iand {a b : Int32} (hn : pc + 1 = pc') (hd : decode y.1 pc = .ok (.iand, 1)) (kk : J l D dA H0 y h0 Po k n h pc' lo (vI (a &&& b) :: st)) : J l D dA H0 y h0 Po k n h pc lo (vI b :: vI a :: st) := by
  subst hn
  intro p e s m args below meth c hC ad0 ad H locs ls hR hG hlc hL hS hl
  refine lv_iand hC.1 hC.2.1 hd ?_
  exact kk p e s m args below meth c hC ad0 ad H locs ls hR hG hlc hL (okS_c trivial (okS_t (okS_t hS))) hl
theorem j_ior {a b : Int32} (hn : pc + 1 = pc') (hd : decode y.1 pc = .ok (.ior, 1)) (kk : J l D dA H0 y h0 Po k n h pc' lo (vI (a ||| b) :: st)) : J l D dA H0 y h0 Po k n h pc lo (vI b :: vI a :: st) := by
  subst hn
  intro p e s m args below meth c hC ad0 ad H locs ls hR hG hlc hL hS hl
  refine lv_ior hC.1 hC.2.1 hd ?_
  exact kk p e s m args below meth c hC ad0 ad H locs ls hR hG hlc hL (okS_c trivial (okS_t (okS_t hS))) hl
theorem j_ixor {a b : Int32} (hn : pc + 1 = pc') (hd : decode y.1 pc = .ok (.ixor, 1)) (kk : J l D dA H0 y h0 Po k n h pc' lo (vI (a ^^^ b) :: st)) : J l D dA H0 y h0 Po k n h pc lo (vI b :: vI a :: st) := by
  subst hn
  intro p e s m args below meth c hC ad0 ad H locs ls hR hG hlc hL hS hl
  refine lv_ixor hC.1 hC.2.1 hd ?_
  exact kk p e s m args below meth c hC ad0 ad H locs ls hR hG hlc hL (okS_c trivial (okS_t (okS_t hS))) hl
theorem j_ishl {a b : Int32} (hn : pc + 1 = pc') (hd : decode y.1 pc = .ok (.ishl, 1)) (kk : J l D dA H0 y h0 Po k n h pc' lo (vI (a <<< (b &&& 31)) :: st)) : J l D dA H0 y h0 Po k n h pc lo (vI b :: vI a :: st) := by
  subst hn
  intro p e s m args below meth c hC ad0 ad H locs ls hR hG hlc hL hS hl
  refine lv_ishl hC.1 hC.2.1 hd ?_
  exact kk p e s m args below meth c hC ad0 ad H locs ls hR hG hlc hL (okS_c trivial (okS_t (okS_t hS))) hl
theorem j_ishr {a b : Int32} (hn : pc + 1 = pc') (hd : decode y.1 pc = .ok (.ishr, 1)) (kk : J l D dA H0 y h0 Po k n h pc' lo (vI (a >>> (b &&& 31)) :: st)) : J l D dA H0 y h0 Po k n h pc lo (vI b :: vI a :: st) := by
  subst hn
  intro p e s m args below meth c hC ad0 ad H locs ls hR hG hlc hL hS hl
  refine lv_ishr hC.1 hC.2.1 hd ?_
  exact kk p e s m args below meth c hC ad0 ad H locs ls hR hG hlc hL (okS_c trivial (okS_t (okS_t hS))) hl
theorem j_idiv {a b : Int32} (hz : ¬ b = 0) (hn : pc + 1 = pc') (hd : decode y.1 pc = .ok (.idiv, 1)) (kk : J l D dA H0 y h0 Po k n h pc' lo (vI (a / b) :: st)) : J l D dA H0 y h0 Po k n h pc lo (vI b :: vI a :: st) := by
  subst hn
  intro p e s m args below meth c hC ad0 ad H locs ls hR hG hlc hL hS hl
  refine lv_idiv hC.1 hC.2.1 hd hz ?_
  exact kk p e s m args below meth c hC ad0 ad H locs ls hR hG hlc hL (okS_c trivial (okS_t (okS_t hS))) hl
theorem j_irem {a b : Int32} (hz : ¬ b = 0) (hn : pc + 1 = pc') (hd : decode y.1 pc = .ok (.irem, 1)) (kk : J l D dA H0 y h0 Po k n h pc' lo (vI (a - a / b * b) :: st)) : J l D dA H0 y h0 Po k n h pc lo (vI b :: vI a :: st) := by
  subst hn
  intro p e s m args below meth c hC ad0 ad H locs ls hR hG hlc hL hS hl
  refine lv_irem hC.1 hC.2.1 hd hz ?_
  exact kk p e s m args below meth c hC ad0 ad H locs ls hR hG hlc hL (okS_c trivial (okS_t (okS_t hS))) hl
theorem j_ladd {a b : Int64} (hn : pc + 1 = pc') (hd : decode y.1 pc = .ok (.ladd, 1)) (kk : J l D dA H0 y h0 Po k n h pc' lo (vL (a + b) :: st)) : J l D dA H0 y h0 Po k n h pc lo (vL b :: vL a :: st) := by
  subst hn
  intro p e s m args below meth c hC ad0 ad H locs ls hR hG hlc hL hS hl
  refine lv_ladd hC.1 hC.2.1 hd ?_
  exact kk p e s m args below meth c hC ad0 ad H locs ls hR hG hlc hL (okS_c trivial (okS_t (okS_t hS))) hl
theorem j_lsub {a b : Int64} (hn : pc + 1 = pc') (hd : decode y.1 pc = .ok (.lsub, 1)) (kk : J l D dA H0 y h0 Po k n h pc' lo (vL (a - b) :: st)) : J l D dA H0 y h0 Po k n h pc lo (vL b :: vL a :: st) := by
  subst hn
  intro p e s m args below meth c hC ad0 ad H locs ls hR hG hlc hL hS hl
  refine lv_lsub hC.1 hC.2.1 hd ?_
  exact kk p e s m args below meth c hC ad0 ad H locs ls hR hG hlc hL (okS_c trivial (okS_t (okS_t hS))) hl
theorem j_lmul {a b : Int64} (hn : pc + 1 = pc') (hd : decode y.1 pc = .ok (.lmul, 1)) (kk : J l D dA H0 y h0 Po k n h pc' lo (vL (a * b) :: st)) : J l D dA H0 y h0 Po k n h pc lo (vL b :: vL a :: st) := by
  subst hn
  intro p e s m args below meth c hC ad0 ad H locs ls hR hG hlc hL hS hl
  refine lv_lmul hC.1 hC.2.1 hd ?_
  exact kk p e s m args below meth c hC ad0 ad H locs ls hR hG hlc hL (okS_c trivial (okS_t (okS_t hS))) hl
theorem j_land {a b : Int64} (hn : pc + 1 = pc') (hd : decode y.1 pc = .ok (.land, 1)) (kk : J l D dA H0 y h0 Po k n h pc' lo (vL (a &&& b) :: st)) : J l D dA H0 y h0 Po k n h pc lo (vL b :: vL a :: st) := by
  subst hn
  intro p e s m args below meth c hC ad0 ad H locs ls hR hG hlc hL hS hl
  refine lv_land hC.1 hC.2.1 hd ?_
  exact kk p e s m args below meth c hC ad0 ad H locs ls hR hG hlc hL (okS_c trivial (okS_t (okS_t hS))) hl
theorem j_lxor {a b : Int64} (hn : pc + 1 = pc') (hd : decode y.1 pc = .ok (.lxor, 1)) (kk : J l D dA H0 y h0 Po k n h pc' lo (vL (a ^^^ b) :: st)) : J l D dA H0 y h0 Po k n h pc lo (vL b :: vL a :: st) := by
  subst hn
  intro p e s m args below meth c hC ad0 ad H locs ls hR hG hlc hL hS hl
  refine lv_lxor hC.1 hC.2.1 hd ?_
  exact kk p e s m args below meth c hC ad0 ad H locs ls hR hG hlc hL (okS_c trivial (okS_t (okS_t hS))) hl
theorem j_ldiv {a b : Int64} (hz : ¬ b = 0) (hn : pc + 1 = pc') (hd : decode y.1 pc = .ok (.ldiv, 1)) (kk : J l D dA H0 y h0 Po k n h pc' lo (vL (a / b) :: st)) : J l D dA H0 y h0 Po k n h pc lo (vL b :: vL a :: st) := by
  subst hn
  intro p e s m args below meth c hC ad0 ad H locs ls hR hG hlc hL hS hl
  refine lv_ldiv hC.1 hC.2.1 hd hz ?_
  exact kk p e s m args below meth c hC ad0 ad H locs ls hR hG hlc hL (okS_c trivial (okS_t (okS_t hS))) hl
theorem j_lshl {a : Int64} {b : Int32} (hn : pc + 1 = pc') (hd : decode y.1 pc = .ok (.lshl, 1)) (kk : J l D dA H0 y h0 Po k n h pc' lo (vL (a <<< (b.toInt64 &&& 63)) :: st)) : J l D dA H0 y h0 Po k n h pc lo (vI b :: vL a :: st) := by
  subst hn
  intro p e s m args below meth c hC ad0 ad H locs ls hR hG hlc hL hS hl
  refine lv_lshl hC.1 hC.2.1 hd rfl ?_
  exact kk p e s m args below meth c hC ad0 ad H locs ls hR hG hlc hL (okS_c trivial (okS_t (okS_t hS))) hl
theorem j_lshr {a : Int64} {b : Int32} (hn : pc + 1 = pc') (hd : decode y.1 pc = .ok (.lshr, 1)) (kk : J l D dA H0 y h0 Po k n h pc' lo (vL (a >>> (b.toInt64 &&& 63)) :: st)) : J l D dA H0 y h0 Po k n h pc lo (vI b :: vL a :: st) := by
  subst hn
  intro p e s m args below meth c hC ad0 ad H locs ls hR hG hlc hL hS hl
  refine lv_lshr hC.1 hC.2.1 hd rfl ?_
  exact kk p e s m args below meth c hC ad0 ad H locs ls hR hG hlc hL (okS_c trivial (okS_t (okS_t hS))) hl
theorem j_lushr {a : Int64} {b : Int32} (hn : pc + 1 = pc') (hd : decode y.1 pc = .ok (.lushr, 1)) (kk : J l D dA H0 y h0 Po k n h pc' lo (vL ((a.toUInt64 >>> (b.toInt64.toUInt64 &&& Int64.toUInt64 63)).toInt64) :: st)) : J l D dA H0 y h0 Po k n h pc lo (vI b :: vL a :: st) := by
  subst hn
  intro p e s m args below meth c hC ad0 ad H locs ls hR hG hlc hL hS hl
  refine lv_lushr hC.1 hC.2.1 hd rfl ?_
  exact kk p e s m args below meth c hC ad0 ad H locs ls hR hG hlc hL (okS_c trivial (okS_t (okS_t hS))) hl
theorem j_iushr {a b : Int32} (hn : pc + 1 = pc') (hd : decode y.1 pc = .ok (.iushr, 1)) (kk : J l D dA H0 y h0 Po k n h pc' lo (vI ((a.toUInt32 >>> (b.toUInt32 &&& Int32.toUInt32 31)).toInt32) :: st)) : J l D dA H0 y h0 Po k n h pc lo (vI b :: vI a :: st) := by
  subst hn
  intro p e s m args below meth c hC ad0 ad H locs ls hR hG hlc hL hS hl
  refine lv_iushr hC.1 hC.2.1 hd rfl ?_
  exact kk p e s m args below meth c hC ad0 ad H locs ls hR hG hlc hL (okS_c trivial (okS_t (okS_t hS))) hl
theorem j_i2l {a : Int32} (hn : pc + 1 = pc') (hd : decode y.1 pc = .ok (.i2l, 1)) (kk : J l D dA H0 y h0 Po k n h pc' lo (vL a.toInt64 :: st)) : J l D dA H0 y h0 Po k n h pc lo (vI a :: st) := by
  subst hn
  intro p e s m args below meth c hC ad0 ad H locs ls hR hG hlc hL hS hl
  refine lv_i2l hC.1 hC.2.1 hd rfl ?_
  exact kk p e s m args below meth c hC ad0 ad H locs ls hR hG hlc hL (okS_c trivial (okS_t hS)) hl
theorem j_l2i {a : Int64} (hn : pc + 1 = pc') (hd : decode y.1 pc = .ok (.l2i, 1)) (kk : J l D dA H0 y h0 Po k n h pc' lo (vI a.toInt32 :: st)) : J l D dA H0 y h0 Po k n h pc lo (vL a :: st) := by
  subst hn
  intro p e s m args below meth c hC ad0 ad H locs ls hR hG hlc hL hS hl
  refine lv_l2i hC.1 hC.2.1 hd rfl ?_
  exact kk p e s m args below meth c hC ad0 ad H locs ls hR hG hlc hL (okS_c trivial (okS_t hS)) hl
theorem j_lcmp {a b : Int64} (hn : pc + 1 = pc') (hd : decode y.1 pc = .ok (.lcmp, 1)) (kk : J l D dA H0 y h0 Po k n h pc' lo (vI (lg_cmp a b) :: st)) : J l D dA H0 y h0 Po k n h pc lo (vL b :: vL a :: st) := by
  subst hn
  intro p e s m args below meth c hC ad0 ad H locs ls hR hG hlc hL hS hl
  refine W.lcmp hC.1 hC.2.1 hd ?_
  exact kk p e s m args below meth c hC ad0 ad H locs ls hR hG hlc hL (okS_c trivial (okS_t (okS_t hS))) hl
theorem j_iconst {z : Int} {v : Int32} (hv : Int32.ofInt z = v) (hn : pc + 1 = pc') (hd : decode y.1 pc = .ok (.iconst z, 1)) (kk : J l D dA H0 y h0 Po k n h pc' lo (vI v :: st)) : J l D dA H0 y h0 Po k n h pc lo (st) := by
  subst hn
  intro p e s m args below meth c hC ad0 ad H locs ls hR hG hlc hL hS hl
  refine lv_iconst hC.1 hC.2.1 hd hv ?_
  exact kk p e s m args below meth c hC ad0 ad H locs ls hR hG hlc hL (okS_c trivial hS) hl
theorem j_bipush {z : Int} {v : Int32} (hv : (Int8.ofInt z).toInt32 = v) (hn : pc + 2 = pc') (hd : decode y.1 pc = .ok (.bipush z, 2)) (kk : J l D dA H0 y h0 Po k n h pc' lo (vI v :: st)) : J l D dA H0 y h0 Po k n h pc lo (st) := by
  subst hn
  intro p e s m args below meth c hC ad0 ad H locs ls hR hG hlc hL hS hl
  refine lv_bipush hC.1 hC.2.1 hd hv ?_
  exact kk p e s m args below meth c hC ad0 ad H locs ls hR hG hlc hL (okS_c trivial hS) hl
theorem j_sipush {z : Int} {v : Int32} (hv : (Int16.ofInt z).toInt32 = v) (hn : pc + 3 = pc') (hd : decode y.1 pc = .ok (.sipush z, 3)) (kk : J l D dA H0 y h0 Po k n h pc' lo (vI v :: st)) : J l D dA H0 y h0 Po k n h pc lo (st) := by
  subst hn
  intro p e s m args below meth c hC ad0 ad H locs ls hR hG hlc hL hS hl
  refine lv_sipush hC.1 hC.2.1 hd hv ?_
  exact kk p e s m args below meth c hC ad0 ad H locs ls hR hG hlc hL (okS_c trivial hS) hl
theorem j_lconst {z : Fin 2} {v : Int64} (hv : Int64.ofNat (z : Nat) = v) (hn : pc + 1 = pc') (hd : decode y.1 pc = .ok (.lconst z, 1)) (kk : J l D dA H0 y h0 Po k n h pc' lo (vL v :: st)) : J l D dA H0 y h0 Po k n h pc lo (st) := by
  subst hn
  intro p e s m args below meth c hC ad0 ad H locs ls hR hG hlc hL hS hl
  refine lv_lconst hC.1 hC.2.1 hd hv ?_
  exact kk p e s m args below meth c hC ad0 ad H locs ls hR hG hlc hL (okS_c trivial hS) hl
theorem j_null  (hn : pc + 1 = pc') (hd : decode y.1 pc = .ok (.aconst_null, 1)) (kk : J l D dA H0 y h0 Po k n h pc' lo (vR none :: st)) : J l D dA H0 y h0 Po k n h pc lo (st) := by
  subst hn
  intro p e s m args below meth c hC ad0 ad H locs ls hR hG hlc hL hS hl
  refine lv_null hC.1 hC.2.1 hd ?_
  exact kk p e s m args below meth c hC ad0 ad H locs ls hR hG hlc hL (okS_c trivial hS) hl
theorem j_ldc {ix : Nat} {v : Int32} (hw : Cond.constant y.2.2.1 ix v ∈ lw_gd) (hn : pc + 2 = pc') (hd : decode y.1 pc = .ok (.ldc ix, 2)) (kk : J l D dA H0 y h0 Po k n h pc' lo (vI v :: st)) : J l D dA H0 y h0 Po k n h pc lo (st) := by
  subst hn
  intro p e s m args below meth c hC ad0 ad H locs ls hR hG hlc hL hS hl
  refine lv_ldc hC.1 hC.2.1 hC.2.2.2.1 (hC.2.2.2.2.1 _ hw) hd ?_
  exact kk p e s m args below meth c hC ad0 ad H locs ls hR hG hlc hL (okS_c trivial hS) hl
theorem j_ldcw {ix : Nat} {v : Int32} (hw : Cond.constant y.2.2.1 ix v ∈ lw_gd) (hn : pc + 3 = pc') (hd : decode y.1 pc = .ok (.ldc_w ix, 3)) (kk : J l D dA H0 y h0 Po k n h pc' lo (vI v :: st)) : J l D dA H0 y h0 Po k n h pc lo (st) := by
  subst hn
  intro p e s m args below meth c hC ad0 ad H locs ls hR hG hlc hL hS hl
  refine lv_ldcw hC.1 hC.2.1 hC.2.2.2.1 (hC.2.2.2.2.1 _ hw) hd ?_
  exact kk p e s m args below meth c hC ad0 ad H locs ls hR hG hlc hL (okS_c trivial hS) hl
theorem j_ldc2 {ix : Nat} {v : Int64} (hw : Cond.constantLong y.2.2.1 ix v ∈ lw_gd) (hn : pc + 3 = pc') (hd : decode y.1 pc = .ok (.ldc2_w ix, 3)) (kk : J l D dA H0 y h0 Po k n h pc' lo (vL v :: st)) : J l D dA H0 y h0 Po k n h pc lo (st) := by
  subst hn
  intro p e s m args below meth c hC ad0 ad H locs ls hR hG hlc hL hS hl
  refine lv_ldc2 hC.1 hC.2.1 hC.2.2.2.1 (hC.2.2.2.2.1 _ hw) hd ?_
  exact kk p e s m args below meth c hC ad0 ad H locs ls hR hG hlc hL (okS_c trivial hS) hl
theorem cv_cat1 {ad : Hd → Nat} {v : AV} (hv : clr (some v) = some v) : (cv ad v).category = 1 := by
  rcases v with x | x | _ | q
  · rfl
  · cases hv
  · rfl
  · rfl
theorem j_dup {v : AV} (hv : clr (some v) = some v) (hn : pc + 1 = pc') (hd : decode y.1 pc = .ok (.dup, 1)) (kk : J l D dA H0 y h0 Po k n h pc' lo (v :: v :: st)) : J l D dA H0 y h0 Po k n h pc lo (v :: st) := by
  subst hn
  intro p e s m args below meth c hC ad0 ad H locs ls hR hG hlc hL hS hl
  refine lv_dup hC.1 hC.2.1 hd (cv_cat1 hv) ?_
  exact kk p e s m args below meth c hC ad0 ad H locs ls hR hG hlc hL (okS_c (okS_h hS) hS) hl
theorem j_dup2 {v u : AV} (hv : clr (some v) = some v) (hu : clr (some u) = some u) (hn : pc + 1 = pc') (hd : decode y.1 pc = .ok (.dup2, 1)) (kk : J l D dA H0 y h0 Po k n h pc' lo (v :: u :: v :: u :: st)) : J l D dA H0 y h0 Po k n h pc lo (v :: u :: st) := by
  subst hn
  intro p e s m args below meth c hC ad0 ad H locs ls hR hG hlc hL hS hl
  refine lv_dup2_11 hC.1 hC.2.1 hd (cv_cat1 hv) (cv_cat1 hu) ?_
  exact kk p e s m args below meth c hC ad0 ad H locs ls hR hG hlc hL (okS_c (okS_h hS) (okS_c (okS_h (okS_t hS)) hS)) hl
theorem j_pop {v : AV} (hv : clr (some v) = some v) (hn : pc + 1 = pc') (hd : decode y.1 pc = .ok (.pop, 1)) (kk : J l D dA H0 y h0 Po k n h pc' lo (st)) : J l D dA H0 y h0 Po k n h pc lo (v :: st) := by
  subst hn
  intro p e s m args below meth c hC ad0 ad H locs ls hR hG hlc hL hS hl
  refine lv_pop hC.1 hC.2.1 hd (cv_cat1 hv) ?_
  exact kk p e s m args below meth c hC ad0 ad H locs ls hR hG hlc hL (okS_t hS) hl
theorem j_iload_n {z : Fin 4} {x : Int32} (hg : lgt lo (z : Nat) = some (vI x)) (hn : pc + 1 = pc') (hd : decode y.1 pc = .ok (.iload_n z, 1)) (kk : J l D dA H0 y h0 Po k n h pc' lo (vI x :: st)) : J l D dA H0 y h0 Po k n h pc lo st := by
  subst hn
  intro p e s m args below meth c hC ad0 ad H locs ls hR hG hlc hL hS hl
  have hq := hl.2.2 _ (List.mem_append_right _ (pr_get (ad := ad) lo _ 0 hg))
  rw [Nat.zero_add] at hq
  refine lv_iload_n hC.1 hC.2.1 hd rfl hq ?_
  exact kk p e s m args below meth c hC ad0 ad H locs ls hR hG hlc hL (okS_c (hL _ (lgt_mem lo _ hg)) hS) hl
theorem j_iload {z : Nat} {x : Int32} (hg : lgt lo (z : Nat) = some (vI x)) (hn : pc + 2 = pc') (hd : decode y.1 pc = .ok (.iload z, 2)) (kk : J l D dA H0 y h0 Po k n h pc' lo (vI x :: st)) : J l D dA H0 y h0 Po k n h pc lo st := by
  subst hn
  intro p e s m args below meth c hC ad0 ad H locs ls hR hG hlc hL hS hl
  have hq := hl.2.2 _ (List.mem_append_right _ (pr_get (ad := ad) lo _ 0 hg))
  rw [Nat.zero_add] at hq
  refine lv_iload hC.1 hC.2.1 hd hq ?_
  exact kk p e s m args below meth c hC ad0 ad H locs ls hR hG hlc hL (okS_c (hL _ (lgt_mem lo _ hg)) hS) hl
theorem j_lload_n {z : Fin 4} {x : Int64} (hg : lgt lo (z : Nat) = some (vL x)) (hn : pc + 1 = pc') (hd : decode y.1 pc = .ok (.lload_n z, 1)) (kk : J l D dA H0 y h0 Po k n h pc' lo (vL x :: st)) : J l D dA H0 y h0 Po k n h pc lo st := by
  subst hn
  intro p e s m args below meth c hC ad0 ad H locs ls hR hG hlc hL hS hl
  have hq := hl.2.2 _ (List.mem_append_right _ (pr_get (ad := ad) lo _ 0 hg))
  rw [Nat.zero_add] at hq
  refine lv_lload_n hC.1 hC.2.1 hd rfl hq ?_
  exact kk p e s m args below meth c hC ad0 ad H locs ls hR hG hlc hL (okS_c (hL _ (lgt_mem lo _ hg)) hS) hl
theorem j_lload {z : Nat} {x : Int64} (hg : lgt lo (z : Nat) = some (vL x)) (hn : pc + 2 = pc') (hd : decode y.1 pc = .ok (.lload z, 2)) (kk : J l D dA H0 y h0 Po k n h pc' lo (vL x :: st)) : J l D dA H0 y h0 Po k n h pc lo st := by
  subst hn
  intro p e s m args below meth c hC ad0 ad H locs ls hR hG hlc hL hS hl
  have hq := hl.2.2 _ (List.mem_append_right _ (pr_get (ad := ad) lo _ 0 hg))
  rw [Nat.zero_add] at hq
  refine lv_lload hC.1 hC.2.1 hd hq ?_
  exact kk p e s m args below meth c hC ad0 ad H locs ls hR hG hlc hL (okS_c (hL _ (lgt_mem lo _ hg)) hS) hl
theorem j_aload_n {z : Fin 4} {x : Option Hd} (hg : lgt lo (z : Nat) = some (vR x)) (hn : pc + 1 = pc') (hd : decode y.1 pc = .ok (.aload_n z, 1)) (kk : J l D dA H0 y h0 Po k n h pc' lo (vR x :: st)) : J l D dA H0 y h0 Po k n h pc lo st := by
  subst hn
  intro p e s m args below meth c hC ad0 ad H locs ls hR hG hlc hL hS hl
  have hq := hl.2.2 _ (List.mem_append_right _ (pr_get (ad := ad) lo _ 0 hg))
  rw [Nat.zero_add] at hq
  have kk := kk p e s m args below meth c hC ad0 ad H locs ls hR hG hlc hL (okS_c (hL _ (lgt_mem lo _ hg)) hS) hl
  cases x with
  | none => exact lv_aload_nN hC.1 hC.2.1 hd rfl hq kk
  | some q => exact lv_aload_n hC.1 hC.2.1 hd rfl hq kk
theorem j_aload {z : Nat} {x : Option Hd} (hg : lgt lo (z : Nat) = some (vR x)) (hn : pc + 2 = pc') (hd : decode y.1 pc = .ok (.aload z, 2)) (kk : J l D dA H0 y h0 Po k n h pc' lo (vR x :: st)) : J l D dA H0 y h0 Po k n h pc lo st := by
  subst hn
  intro p e s m args below meth c hC ad0 ad H locs ls hR hG hlc hL hS hl
  have hq := hl.2.2 _ (List.mem_append_right _ (pr_get (ad := ad) lo _ 0 hg))
  rw [Nat.zero_add] at hq
  have kk := kk p e s m args below meth c hC ad0 ad H locs ls hR hG hlc hL (okS_c (hL _ (lgt_mem lo _ hg)) hS) hl
  cases x with
  | none => exact lv_aloadN hC.1 hC.2.1 hd hq kk
  | some q => exact lv_aload hC.1 hC.2.1 hd hq kk
theorem j_istore_n {z : Fin 4} {x : Int32} (hz : (z : Nat) < y.2.1) (hfl : y.2.2.2.2.2.2.2.all (kp1 (z : Nat)) = true) (hn : pc + 1 = pc') (hd : decode y.1 pc = .ok (.istore_n z, 1)) (kk : J l D dA H0 y h0 Po k n h pc' (ls1 lo (z : Nat) (vI x)) st) : J l D dA H0 y h0 Po k n h pc lo (vI x :: st) := by
  subst hn
  intro p e s m args below meth c hC ad0 ad H locs ls hR hG hlc hL hS hl
  refine lv_istore_n hC.1 hC.2.1 hd rfl hl hz rfl (fun ls hl => ?_)
  refine kk p e s m args below meth c hC ad0 ad H locs ls hR hG hlc (okL_1 hL (okS_h hS)) (okS_t hS) (lv_less hl (fun q hq => ?_))
  rcases List.mem_append.mp hq with hq | hq
  · exact List.mem_cons_of_mem _ (List.mem_filter.mpr ⟨List.mem_append_left _ hq, List.all_eq_true.mp hfl q hq⟩)
  rcases pr_ls1 lo (z : Nat) 0 hq with rfl | ⟨h1, h2⟩
  · rw [Nat.zero_add]; exact List.mem_cons_self
  · rw [Nat.zero_add] at h2; exact List.mem_cons_of_mem _ (List.mem_filter.mpr ⟨List.mem_append_right _ h1, h2⟩)
theorem j_istore {z : Nat} {x : Int32} (hz : (z : Nat) < y.2.1) (hfl : y.2.2.2.2.2.2.2.all (kp1 (z : Nat)) = true) (hn : pc + 2 = pc') (hd : decode y.1 pc = .ok (.istore z, 2)) (kk : J l D dA H0 y h0 Po k n h pc' (ls1 lo (z : Nat) (vI x)) st) : J l D dA H0 y h0 Po k n h pc lo (vI x :: st) := by
  subst hn
  intro p e s m args below meth c hC ad0 ad H locs ls hR hG hlc hL hS hl
  refine lv_istore hC.1 hC.2.1 hd hl hz rfl (fun ls hl => ?_)
  refine kk p e s m args below meth c hC ad0 ad H locs ls hR hG hlc (okL_1 hL (okS_h hS)) (okS_t hS) (lv_less hl (fun q hq => ?_))
  rcases List.mem_append.mp hq with hq | hq
  · exact List.mem_cons_of_mem _ (List.mem_filter.mpr ⟨List.mem_append_left _ hq, List.all_eq_true.mp hfl q hq⟩)
  rcases pr_ls1 lo (z : Nat) 0 hq with rfl | ⟨h1, h2⟩
  · rw [Nat.zero_add]; exact List.mem_cons_self
  · rw [Nat.zero_add] at h2; exact List.mem_cons_of_mem _ (List.mem_filter.mpr ⟨List.mem_append_right _ h1, h2⟩)
theorem j_lstore_n {z : Fin 4} {x : Int64} (hz : (z : Nat) + 1 < y.2.1) (hfl : y.2.2.2.2.2.2.2.all (kp2 (z : Nat)) = true) (hn : pc + 1 = pc') (hd : decode y.1 pc = .ok (.lstore_n z, 1)) (kk : J l D dA H0 y h0 Po k n h pc' (ls2 lo (z : Nat) (vL x)) st) : J l D dA H0 y h0 Po k n h pc lo (vL x :: st) := by
  subst hn
  intro p e s m args below meth c hC ad0 ad H locs ls hR hG hlc hL hS hl
  refine lv_lstore_n hC.1 hC.2.1 hd rfl hl hz rfl (fun ls hl => ?_)
  refine kk p e s m args below meth c hC ad0 ad H locs ls hR hG hlc (okL_2 hL (okS_h hS)) (okS_t hS) (lv_less hl (fun q hq => ?_))
  rcases List.mem_append.mp hq with hq | hq
  · exact List.mem_cons_of_mem _ (List.mem_filter.mpr ⟨List.mem_append_left _ hq, List.all_eq_true.mp hfl q hq⟩)
  rcases pr_ls2 lo (z : Nat) 0 hq with rfl | ⟨h1, h2⟩
  · rw [Nat.zero_add]; exact List.mem_cons_self
  · rw [Nat.zero_add] at h2; exact List.mem_cons_of_mem _ (List.mem_filter.mpr ⟨List.mem_append_right _ h1, h2⟩)
theorem j_lstore {z : Nat} {x : Int64} (hz : (z : Nat) + 1 < y.2.1) (hfl : y.2.2.2.2.2.2.2.all (kp2 (z : Nat)) = true) (hn : pc + 2 = pc') (hd : decode y.1 pc = .ok (.lstore z, 2)) (kk : J l D dA H0 y h0 Po k n h pc' (ls2 lo (z : Nat) (vL x)) st) : J l D dA H0 y h0 Po k n h pc lo (vL x :: st) := by
  subst hn
  intro p e s m args below meth c hC ad0 ad H locs ls hR hG hlc hL hS hl
  refine lv_lstore hC.1 hC.2.1 hd hl hz rfl (fun ls hl => ?_)
  refine kk p e s m args below meth c hC ad0 ad H locs ls hR hG hlc (okL_2 hL (okS_h hS)) (okS_t hS) (lv_less hl (fun q hq => ?_))
  rcases List.mem_append.mp hq with hq | hq
  · exact List.mem_cons_of_mem _ (List.mem_filter.mpr ⟨List.mem_append_left _ hq, List.all_eq_true.mp hfl q hq⟩)
  rcases pr_ls2 lo (z : Nat) 0 hq with rfl | ⟨h1, h2⟩
  · rw [Nat.zero_add]; exact List.mem_cons_self
  · rw [Nat.zero_add] at h2; exact List.mem_cons_of_mem _ (List.mem_filter.mpr ⟨List.mem_append_right _ h1, h2⟩)
theorem j_astore_n {z : Fin 4} {x : Option Hd} (hz : (z : Nat) < y.2.1) (hfl : y.2.2.2.2.2.2.2.all (kp1 (z : Nat)) = true) (hn : pc + 1 = pc') (hd : decode y.1 pc = .ok (.astore_n z, 1)) (kk : J l D dA H0 y h0 Po k n h pc' (ls1 lo (z : Nat) (vR x)) st) : J l D dA H0 y h0 Po k n h pc lo (vR x :: st) := by
  subst hn
  intro p e s m args below meth c hC ad0 ad H locs ls hR hG hlc hL hS hl
  cases x with
  | none =>
    refine lv_astore_nN hC.1 hC.2.1 hd rfl hl hz rfl (fun ls hl => ?_)
    refine kk p e s m args below meth c hC ad0 ad H locs ls hR hG hlc (okL_1 hL (okS_h hS)) (okS_t hS) (lv_less hl (fun q hq => ?_))
    rcases List.mem_append.mp hq with hq | hq
    · exact List.mem_cons_of_mem _ (List.mem_filter.mpr ⟨List.mem_append_left _ hq, List.all_eq_true.mp hfl q hq⟩)
    rcases pr_ls1 lo (z : Nat) 0 hq with rfl | ⟨h1, h2⟩
    · rw [Nat.zero_add]; exact List.mem_cons_self
    · rw [Nat.zero_add] at h2; exact List.mem_cons_of_mem _ (List.mem_filter.mpr ⟨List.mem_append_right _ h1, h2⟩)
  | some v =>
    refine lv_astore_n hC.1 hC.2.1 hd rfl hl hz rfl (fun ls hl => ?_)
    refine kk p e s m args below meth c hC ad0 ad H locs ls hR hG hlc (okL_1 hL (okS_h hS)) (okS_t hS) (lv_less hl (fun q hq => ?_))
    rcases List.mem_append.mp hq with hq | hq
    · exact List.mem_cons_of_mem _ (List.mem_filter.mpr ⟨List.mem_append_left _ hq, List.all_eq_true.mp hfl q hq⟩)
    rcases pr_ls1 lo (z : Nat) 0 hq with rfl | ⟨h1, h2⟩
    · rw [Nat.zero_add]; exact List.mem_cons_self
    · rw [Nat.zero_add] at h2; exact List.mem_cons_of_mem _ (List.mem_filter.mpr ⟨List.mem_append_right _ h1, h2⟩)
theorem j_astore {z : Nat} {x : Option Hd} (hz : (z : Nat) < y.2.1) (hfl : y.2.2.2.2.2.2.2.all (kp1 (z : Nat)) = true) (hn : pc + 2 = pc') (hd : decode y.1 pc = .ok (.astore z, 2)) (kk : J l D dA H0 y h0 Po k n h pc' (ls1 lo (z : Nat) (vR x)) st) : J l D dA H0 y h0 Po k n h pc lo (vR x :: st) := by
  subst hn
  intro p e s m args below meth c hC ad0 ad H locs ls hR hG hlc hL hS hl
  cases x with
  | none =>
    refine lv_astoreN hC.1 hC.2.1 hd hl hz rfl (fun ls hl => ?_)
    refine kk p e s m args below meth c hC ad0 ad H locs ls hR hG hlc (okL_1 hL (okS_h hS)) (okS_t hS) (lv_less hl (fun q hq => ?_))
    rcases List.mem_append.mp hq with hq | hq
    · exact List.mem_cons_of_mem _ (List.mem_filter.mpr ⟨List.mem_append_left _ hq, List.all_eq_true.mp hfl q hq⟩)
    rcases pr_ls1 lo (z : Nat) 0 hq with rfl | ⟨h1, h2⟩
    · rw [Nat.zero_add]; exact List.mem_cons_self
    · rw [Nat.zero_add] at h2; exact List.mem_cons_of_mem _ (List.mem_filter.mpr ⟨List.mem_append_right _ h1, h2⟩)
  | some v =>
    refine lv_astore hC.1 hC.2.1 hd hl hz rfl (fun ls hl => ?_)
    refine kk p e s m args below meth c hC ad0 ad H locs ls hR hG hlc (okL_1 hL (okS_h hS)) (okS_t hS) (lv_less hl (fun q hq => ?_))
    rcases List.mem_append.mp hq with hq | hq
    · exact List.mem_cons_of_mem _ (List.mem_filter.mpr ⟨List.mem_append_left _ hq, List.all_eq_true.mp hfl q hq⟩)
    rcases pr_ls1 lo (z : Nat) 0 hq with rfl | ⟨h1, h2⟩
    · rw [Nat.zero_add]; exact List.mem_cons_self
    · rw [Nat.zero_add] at h2; exact List.mem_cons_of_mem _ (List.mem_filter.mpr ⟨List.mem_append_right _ h1, h2⟩)
theorem j_iinc {z : Nat} {d : Int} {x v : Int32} (hg : lgt lo z = some (vI x)) (hv : x + Int32.ofInt d = v) (hz : z < y.2.1) (hfl : y.2.2.2.2.2.2.2.all (kp1 z) = true) (hn : pc + 3 = pc') (hd : decode y.1 pc = .ok (.iinc z d, 3)) (kk : J l D dA H0 y h0 Po k n h pc' (ls1 lo z (vI v)) st) : J l D dA H0 y h0 Po k n h pc lo st := by
  subst hn
  intro p e s m args below meth c hC ad0 ad H locs ls hR hG hlc hL hS hl
  have hq := pr_get (ad := ad) lo z 0 hg
  rw [Nat.zero_add] at hq
  obtain ⟨i, hi⟩ := List.getElem?_of_mem (List.mem_append_right y.2.2.2.2.2.2.2 hq)
  refine lv_iinc hC.1 hC.2.1 hd hl hi hv hz rfl (fun ls hl => ?_)
  refine kk p e s m args below meth c hC ad0 ad H locs ls hR hG hlc (okL_1 hL trivial) hS (lv_less hl (fun q hq => ?_))
  rcases List.mem_append.mp hq with hq | hq
  · exact List.mem_cons_of_mem _ (List.mem_filter.mpr ⟨List.mem_append_left _ hq, List.all_eq_true.mp hfl q hq⟩)
  rcases pr_ls1 lo z 0 hq with rfl | ⟨h1, h2⟩
  · rw [Nat.zero_add]; exact List.mem_cons_self
  · rw [Nat.zero_add] at h2; exact List.mem_cons_of_mem _ (List.mem_filter.mpr ⟨List.mem_append_right _ h1, h2⟩)
theorem j_if_eq {a : Int32} {off : Int} {tg : Nat} (ht : (pc : Int) + off = (tg : Int)) (hn : pc + 3 = pc') (hd : decode y.1 pc = .ok (.ifCond .eq off, 3)) (kt : a = 0 → J l D dA H0 y h0 Po k n h tg lo st) (kf : ¬ a = 0 → J l D dA H0 y h0 Po k n h pc' lo st) : J l D dA H0 y h0 Po k n h pc lo (vI a :: st) := by
  subst hn
  intro p e s m args below meth c hC ad0 ad H locs ls hR hG hlc hL hS hl
  exact lv_if_eq hC.1 hC.2.1 hd ht (fun c1 => kt c1 p e s m args below meth c hC ad0 ad H locs ls hR hG hlc hL (okS_t hS) hl) (fun c1 => kf c1 p e s m args below meth c hC ad0 ad H locs ls hR hG hlc hL (okS_t hS) hl)
theorem j_if_ne {a : Int32} {off : Int} {tg : Nat} (ht : (pc : Int) + off = (tg : Int)) (hn : pc + 3 = pc') (hd : decode y.1 pc = .ok (.ifCond .ne off, 3)) (kt : ¬ a = 0 → J l D dA H0 y h0 Po k n h tg lo st) (kf : a = 0 → J l D dA H0 y h0 Po k n h pc' lo st) : J l D dA H0 y h0 Po k n h pc lo (vI a :: st) := by
  subst hn
  intro p e s m args below meth c hC ad0 ad H locs ls hR hG hlc hL hS hl
  exact lv_if_ne hC.1 hC.2.1 hd ht (fun c1 => kt c1 p e s m args below meth c hC ad0 ad H locs ls hR hG hlc hL (okS_t hS) hl) (fun c1 => kf c1 p e s m args below meth c hC ad0 ad H locs ls hR hG hlc hL (okS_t hS) hl)
theorem j_if_lt {a : Int32} {off : Int} {tg : Nat} (ht : (pc : Int) + off = (tg : Int)) (hn : pc + 3 = pc') (hd : decode y.1 pc = .ok (.ifCond .lt off, 3)) (kt : a < 0 → J l D dA H0 y h0 Po k n h tg lo st) (kf : ¬ a < 0 → J l D dA H0 y h0 Po k n h pc' lo st) : J l D dA H0 y h0 Po k n h pc lo (vI a :: st) := by
  subst hn
  intro p e s m args below meth c hC ad0 ad H locs ls hR hG hlc hL hS hl
  exact lv_if_lt hC.1 hC.2.1 hd ht (fun c1 => kt c1 p e s m args below meth c hC ad0 ad H locs ls hR hG hlc hL (okS_t hS) hl) (fun c1 => kf c1 p e s m args below meth c hC ad0 ad H locs ls hR hG hlc hL (okS_t hS) hl)
theorem j_if_ge {a : Int32} {off : Int} {tg : Nat} (ht : (pc : Int) + off = (tg : Int)) (hn : pc + 3 = pc') (hd : decode y.1 pc = .ok (.ifCond .ge off, 3)) (kt : 0 ≤ a → J l D dA H0 y h0 Po k n h tg lo st) (kf : ¬ 0 ≤ a → J l D dA H0 y h0 Po k n h pc' lo st) : J l D dA H0 y h0 Po k n h pc lo (vI a :: st) := by
  subst hn
  intro p e s m args below meth c hC ad0 ad H locs ls hR hG hlc hL hS hl
  exact lv_if_ge hC.1 hC.2.1 hd ht (fun c1 => kt c1 p e s m args below meth c hC ad0 ad H locs ls hR hG hlc hL (okS_t hS) hl) (fun c1 => kf c1 p e s m args below meth c hC ad0 ad H locs ls hR hG hlc hL (okS_t hS) hl)
theorem j_if_gt {a : Int32} {off : Int} {tg : Nat} (ht : (pc : Int) + off = (tg : Int)) (hn : pc + 3 = pc') (hd : decode y.1 pc = .ok (.ifCond .gt off, 3)) (kt : 0 < a → J l D dA H0 y h0 Po k n h tg lo st) (kf : ¬ 0 < a → J l D dA H0 y h0 Po k n h pc' lo st) : J l D dA H0 y h0 Po k n h pc lo (vI a :: st) := by
  subst hn
  intro p e s m args below meth c hC ad0 ad H locs ls hR hG hlc hL hS hl
  exact lv_if_gt hC.1 hC.2.1 hd ht (fun c1 => kt c1 p e s m args below meth c hC ad0 ad H locs ls hR hG hlc hL (okS_t hS) hl) (fun c1 => kf c1 p e s m args below meth c hC ad0 ad H locs ls hR hG hlc hL (okS_t hS) hl)
theorem j_if_le {a : Int32} {off : Int} {tg : Nat} (ht : (pc : Int) + off = (tg : Int)) (hn : pc + 3 = pc') (hd : decode y.1 pc = .ok (.ifCond .le off, 3)) (kt : a ≤ 0 → J l D dA H0 y h0 Po k n h tg lo st) (kf : ¬ a ≤ 0 → J l D dA H0 y h0 Po k n h pc' lo st) : J l D dA H0 y h0 Po k n h pc lo (vI a :: st) := by
  subst hn
  intro p e s m args below meth c hC ad0 ad H locs ls hR hG hlc hL hS hl
  exact lv_if_le hC.1 hC.2.1 hd ht (fun c1 => kt c1 p e s m args below meth c hC ad0 ad H locs ls hR hG hlc hL (okS_t hS) hl) (fun c1 => kf c1 p e s m args below meth c hC ad0 ad H locs ls hR hG hlc hL (okS_t hS) hl)
theorem j_ic_eq {a b : Int32} {off : Int} {tg : Nat} (ht : (pc : Int) + off = (tg : Int)) (hn : pc + 3 = pc') (hd : decode y.1 pc = .ok (.if_icmp .eq off, 3)) (kt : a = b → J l D dA H0 y h0 Po k n h tg lo st) (kf : ¬ a = b → J l D dA H0 y h0 Po k n h pc' lo st) : J l D dA H0 y h0 Po k n h pc lo (vI b :: vI a :: st) := by
  subst hn
  intro p e s m args below meth c hC ad0 ad H locs ls hR hG hlc hL hS hl
  exact lv_icmp_eq hC.1 hC.2.1 hd ht (fun c1 => kt c1 p e s m args below meth c hC ad0 ad H locs ls hR hG hlc hL (okS_t (okS_t hS)) hl) (fun c1 => kf c1 p e s m args below meth c hC ad0 ad H locs ls hR hG hlc hL (okS_t (okS_t hS)) hl)
theorem j_ic_ne {a b : Int32} {off : Int} {tg : Nat} (ht : (pc : Int) + off = (tg : Int)) (hn : pc + 3 = pc') (hd : decode y.1 pc = .ok (.if_icmp .ne off, 3)) (kt : ¬ a = b → J l D dA H0 y h0 Po k n h tg lo st) (kf : a = b → J l D dA H0 y h0 Po k n h pc' lo st) : J l D dA H0 y h0 Po k n h pc lo (vI b :: vI a :: st) := by
  subst hn
  intro p e s m args below meth c hC ad0 ad H locs ls hR hG hlc hL hS hl
  exact lv_icmp_ne hC.1 hC.2.1 hd ht (fun c1 => kt c1 p e s m args below meth c hC ad0 ad H locs ls hR hG hlc hL (okS_t (okS_t hS)) hl) (fun c1 => kf c1 p e s m args below meth c hC ad0 ad H locs ls hR hG hlc hL (okS_t (okS_t hS)) hl)
theorem j_ic_lt {a b : Int32} {off : Int} {tg : Nat} (ht : (pc : Int) + off = (tg : Int)) (hn : pc + 3 = pc') (hd : decode y.1 pc = .ok (.if_icmp .lt off, 3)) (kt : a < b → J l D dA H0 y h0 Po k n h tg lo st) (kf : ¬ a < b → J l D dA H0 y h0 Po k n h pc' lo st) : J l D dA H0 y h0 Po k n h pc lo (vI b :: vI a :: st) := by
  subst hn
  intro p e s m args below meth c hC ad0 ad H locs ls hR hG hlc hL hS hl
  exact lv_icmp_lt hC.1 hC.2.1 hd ht (fun c1 => kt c1 p e s m args below meth c hC ad0 ad H locs ls hR hG hlc hL (okS_t (okS_t hS)) hl) (fun c1 => kf c1 p e s m args below meth c hC ad0 ad H locs ls hR hG hlc hL (okS_t (okS_t hS)) hl)
theorem j_ic_ge {a b : Int32} {off : Int} {tg : Nat} (ht : (pc : Int) + off = (tg : Int)) (hn : pc + 3 = pc') (hd : decode y.1 pc = .ok (.if_icmp .ge off, 3)) (kt : b ≤ a → J l D dA H0 y h0 Po k n h tg lo st) (kf : ¬ b ≤ a → J l D dA H0 y h0 Po k n h pc' lo st) : J l D dA H0 y h0 Po k n h pc lo (vI b :: vI a :: st) := by
  subst hn
  intro p e s m args below meth c hC ad0 ad H locs ls hR hG hlc hL hS hl
  exact lv_icmp_ge hC.1 hC.2.1 hd ht (fun c1 => kt c1 p e s m args below meth c hC ad0 ad H locs ls hR hG hlc hL (okS_t (okS_t hS)) hl) (fun c1 => kf c1 p e s m args below meth c hC ad0 ad H locs ls hR hG hlc hL (okS_t (okS_t hS)) hl)
theorem j_ic_gt {a b : Int32} {off : Int} {tg : Nat} (ht : (pc : Int) + off = (tg : Int)) (hn : pc + 3 = pc') (hd : decode y.1 pc = .ok (.if_icmp .gt off, 3)) (kt : b < a → J l D dA H0 y h0 Po k n h tg lo st) (kf : ¬ b < a → J l D dA H0 y h0 Po k n h pc' lo st) : J l D dA H0 y h0 Po k n h pc lo (vI b :: vI a :: st) := by
  subst hn
  intro p e s m args below meth c hC ad0 ad H locs ls hR hG hlc hL hS hl
  exact lv_icmp_gt hC.1 hC.2.1 hd ht (fun c1 => kt c1 p e s m args below meth c hC ad0 ad H locs ls hR hG hlc hL (okS_t (okS_t hS)) hl) (fun c1 => kf c1 p e s m args below meth c hC ad0 ad H locs ls hR hG hlc hL (okS_t (okS_t hS)) hl)
theorem j_ic_le {a b : Int32} {off : Int} {tg : Nat} (ht : (pc : Int) + off = (tg : Int)) (hn : pc + 3 = pc') (hd : decode y.1 pc = .ok (.if_icmp .le off, 3)) (kt : a ≤ b → J l D dA H0 y h0 Po k n h tg lo st) (kf : ¬ a ≤ b → J l D dA H0 y h0 Po k n h pc' lo st) : J l D dA H0 y h0 Po k n h pc lo (vI b :: vI a :: st) := by
  subst hn
  intro p e s m args below meth c hC ad0 ad H locs ls hR hG hlc hL hS hl
  exact lv_icmp_le hC.1 hC.2.1 hd ht (fun c1 => kt c1 p e s m args below meth c hC ad0 ad H locs ls hR hG hlc hL (okS_t (okS_t hS)) hl) (fun c1 => kf c1 p e s m args below meth c hC ad0 ad H locs ls hR hG hlc hL (okS_t (okS_t hS)) hl)
theorem j_goto {off : Int} {tg : Nat} (ht : (pc : Int) + off = (tg : Int)) (hd : decode y.1 pc = .ok (.goto off, 3)) (kk : J l D dA H0 y h0 Po k n h tg lo st) : J l D dA H0 y h0 Po k n h pc lo st := by
  intro p e s m args below meth c hC ad0 ad H locs ls hR hG hlc hL hS hl
  exact lv_goto hC.1 hC.2.1 hd ht (kk p e s m args below meth c hC ad0 ad H locs ls hR hG hlc hL hS hl)
theorem j_ifnull {x : Option Hd} {off : Int} {tg : Nat} (ht : (pc : Int) + off = (tg : Int)) (hn : pc + 3 = pc') (hd : decode y.1 pc = .ok (.ifnull off, 3)) (kt : x = none → J l D dA H0 y h0 Po k n h tg lo st) (kf : ∀ q, x = some q → J l D dA H0 y h0 Po k n h pc' lo st) : J l D dA H0 y h0 Po k n h pc lo (vR x :: st) := by
  subst hn
  intro p e s m args below meth c hC ad0 ad H locs ls hR hG hlc hL hS hl
  cases x with
  | none => exact lv_ifnullN hC.1 hC.2.1 hd ht (kt rfl p e s m args below meth c hC ad0 ad H locs ls hR hG hlc hL (okS_t hS) hl)
  | some q => exact lv_ifnull hC.1 hC.2.1 hd (kf q rfl p e s m args below meth c hC ad0 ad H locs ls hR hG hlc hL (okS_t hS) hl)
theorem j_ifnonnull {x : Option Hd} {off : Int} {tg : Nat} (ht : (pc : Int) + off = (tg : Int)) (hn : pc + 3 = pc') (hd : decode y.1 pc = .ok (.ifnonnull off, 3)) (kt : ∀ q, x = some q → J l D dA H0 y h0 Po k n h tg lo st) (kf : x = none → J l D dA H0 y h0 Po k n h pc' lo st) : J l D dA H0 y h0 Po k n h pc lo (vR x :: st) := by
  subst hn
  intro p e s m args below meth c hC ad0 ad H locs ls hR hG hlc hL hS hl
  cases x with
  | none => exact lv_ifnonnullN hC.1 hC.2.1 hd (kf rfl p e s m args below meth c hC ad0 ad H locs ls hR hG hlc hL (okS_t hS) hl)
  | some q => exact lv_ifnonnull hC.1 hC.2.1 hd ht (kt q rfl p e s m args below meth c hC ad0 ad H locs ls hR hG hlc hL (okS_t hS) hl)
theorem j_tin {dflt a b : Int} {offs : Array Int} {len : Nat} {x v : Int32} {off : Int} {tg : Nat} (hx : x = v) (hv : (¬ v.toInt < a ∧ ¬ b < v.toInt) ∧ offs[(v.toInt - a).toNat]? = some off ∧ (pc : Int) + off = (tg : Int)) (hd : decode y.1 pc = .ok (.tableswitch dflt a b offs, len)) (kk : J l D dA H0 y h0 Po k n h tg lo st) : J l D dA H0 y h0 Po k n h pc lo (vI x :: st) := by
  subst hx
  intro p e s m args below meth c hC ad0 ad H locs ls hR hG hlc hL hS hl
  exact lv_tableIn hC.1 hC.2.1 hd hv.1.1 hv.1.2 hv.2.1 hv.2.2 (kk p e s m args below meth c hC ad0 ad H locs ls hR hG hlc hL (okS_t hS) hl)
theorem j_tout {dflt a b : Int} {offs : Array Int} {len : Nat} {x : Int32} {tg : Nat} (hx : x.toInt < a ∨ b < x.toInt) (ht : (pc : Int) + dflt = (tg : Int)) (hd : decode y.1 pc = .ok (.tableswitch dflt a b offs, len)) (kk : J l D dA H0 y h0 Po k n h tg lo st) : J l D dA H0 y h0 Po k n h pc lo (vI x :: st) := by
  intro p e s m args below meth c hC ad0 ad H locs ls hR hG hlc hL hS hl
  exact lv_tableOut hC.1 hC.2.1 hd hx ht (kk p e s m args below meth c hC ad0 ad H locs ls hR hG hlc hL (okS_t hS) hl)
theorem j_look {dflt : Int} {ps : Array (Int × Int)} {len : Nat} {x : Int32} {off : Int} {tg : Nat} (hp : (ps.toList.zip (ps.toList.drop 1)).all (fun (a, next) => a.1 < next.1) = true) (ho : Op.lookupswitch.offset ps.toList dflt x.toInt = off) (ht : (pc : Int) + off = (tg : Int)) (hd : decode y.1 pc = .ok (.lookupswitch dflt ps, len)) (kk : J l D dA H0 y h0 Po k n h tg lo st) : J l D dA H0 y h0 Po k n h pc lo (vI x :: st) := by
  intro p e s m args below meth c hC ad0 ad H locs ls hR hG hlc hL hS hl
  exact lv_lookup hC.1 hC.2.1 hd hp ho ht (kk p e s m args below meth c hC ad0 ad H locs ls hR hG hlc hL (okS_t hS) hl)
theorem j_ret (hr : y.2.2.2.1 = none) (hk : k = y.2.2.2.2.1.cells ∧ n = y.2.2.2.2.1.slots) (hd : decode y.1 pc = .ok (.return_, 1)) (hp : Po none h) : J l D dA H0 y h0 Po k n h pc lo [] := by
  intro p e s m args below meth c hC ad0 ad H locs ls hR hG hlc hL hS hl
  obtain ⟨rfl, rfl⟩ := hk
  refine vx_ret ?_
  exact W.vret hC.1 hC.2.1 (hC.2.2.2.2.2.1.trans hr) (fun t ht hW => ⟨ad, none, h, rfl, hp, by rw [ht]; exact hR, hG, fun v hv => by cases hv⟩) hlc hd hC.2.2.2.2.2.2.1
theorem j_iret {a : Int32} (hr : y.2.2.2.1 = some .int) (hk : k = y.2.2.2.2.1.cells ∧ n = y.2.2.2.2.1.slots) (hd : decode y.1 pc = .ok (.ireturn, 1)) (hp : Po (some (vI a)) h) : J l D dA H0 y h0 Po k n h pc lo [vI a] := by
  intro p e s m args below meth c hC ad0 ad H locs ls hR hG hlc hL hS hl
  obtain ⟨rfl, rfl⟩ := hk
  refine vx_ret ?_
  exact W.iret hC.1 hC.2.1 (hC.2.2.2.2.2.1.trans hr) (fun t ht hW => ⟨ad, some (vI a), h, rfl, hp, by rw [ht]; exact hR, hG, fun v hv => by cases hv; trivial⟩) hlc hd hC.2.2.2.2.2.2.1
theorem j_zret {a : Int32} (hr : y.2.2.2.1 = some .boolean) (hz : narrow .boolean (.int a) = .int a) (hk : k = y.2.2.2.2.1.cells ∧ n = y.2.2.2.2.1.slots) (hd : decode y.1 pc = .ok (.ireturn, 1)) (hp : Po (some (vI a)) h) : J l D dA H0 y h0 Po k n h pc lo [vI a] := by
  intro p e s m args below meth c hC ad0 ad H locs ls hR hG hlc hL hS hl
  obtain ⟨rfl, rfl⟩ := hk
  refine vx_ret ?_
  exact W.zret hC.1 hC.2.1 (hC.2.2.2.2.2.1.trans hr) hz (fun t ht hW => ⟨ad, some (vI a), h, rfl, hp, by rw [ht]; exact hR, hG, fun v hv => by cases hv; trivial⟩) hlc hd hC.2.2.2.2.2.2.1
theorem j_lret {a : Int64} (hr : y.2.2.2.1 = some .long) (hk : k = y.2.2.2.2.1.cells ∧ n = y.2.2.2.2.1.slots) (hd : decode y.1 pc = .ok (.lreturn, 1)) (hp : Po (some (vL a)) h) : J l D dA H0 y h0 Po k n h pc lo [vL a] := by
  intro p e s m args below meth c hC ad0 ad H locs ls hR hG hlc hL hS hl
  obtain ⟨rfl, rfl⟩ := hk
  refine vx_ret ?_
  exact W.lret hC.1 hC.2.1 (hC.2.2.2.2.2.1.trans hr) (fun t ht hW => ⟨ad, some (vL a), h, rfl, hp, by rw [ht]; exact hR, hG, fun v hv => by cases hv; trivial⟩) hlc hd hC.2.2.2.2.2.2.1
theorem j_aret {x : Option Hd} {C : String} (hr : y.2.2.2.1 = some (.object C)) (hk : k = y.2.2.2.2.1.cells ∧ n = y.2.2.2.2.1.slots) (hd : decode y.1 pc = .ok (.areturn, 1)) (hp : Po (some (vR x)) h) : J l D dA H0 y h0 Po k n h pc lo [vR x] := by
  intro p e s m args below meth c hC ad0 ad H locs ls hR hG hlc hL hS hl
  obtain ⟨rfl, rfl⟩ := hk
  refine vx_ret ?_
  refine W.aret (v := cv ad (vR x)) hC.1 hC.2.1 (hC.2.2.2.2.2.1.trans hr) (Or.inl ⟨_, rfl⟩) ?_ (fun t ht hW => ⟨ad, some (vR x), h, rfl, hp, by rw [ht]; exact hR, hG, fun v hv => by cases hv; exact okS_h hS⟩) hlc hd hC.2.2.2.2.2.2.1
  cases x with
  | none => exact Or.inl rfl
  | some q => exact Or.inr ⟨_, rfl⟩
/-- more room said to be used than is -/
theorem j_wide {k' n' : Nat} (hk : k ≤ k') (hn : n ≤ n') (kk : J l D dA H0 y h0 Po k' n' h pc lo st) : J l D dA H0 y h0 Po k n h pc lo st := by
  intro p e s m args below meth c hC ad0 ad H locs ls hR hG hlc hL hS hl
  exact W.widen hk hn (kk p e s m args below meth c hC ad0 ad H locs ls hR hG hlc hL hS hl)
end ROWS
