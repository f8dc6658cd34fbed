theorem mIsI (σ : Mem) (t i k : Nat) (v : Int32) (t' i' k' : Nat) : mI (sI σ t i k v) t' i' k' = if t' = t ∧ i' = i ∧ k' = k then v else mI σ t' i' k' := rfl
theorem mIsL (σ : Mem) (t i k : Nat) (v : Int64) (t' i' k' : Nat) : mI (sL σ t i k v) t' i' k' = mI σ t' i' k' := rfl
theorem mIsR (σ : Mem) (t i k : Nat) (v : Option Nat) (t' i' k' : Nat) : mI (sR σ t i k v) t' i' k' = mI σ t' i' k' := rfl
theorem mIsV (σ : Mem) (t i : Nat) (t' i' k' : Nat) : mI (sV σ t i) t' i' k' = mI σ t' i' k' := rfl
theorem mIfI (σ : Mem) (t i n : Nat) (v : Int32) (t' i' k' : Nat) : mI (fillI σ t i n v) t' i' k' = if t' = t ∧ i' = i ∧ k' < n then v else mI σ t' i' k' := rfl
theorem mIsW (σ : Mem) (t i : Nat) (f : Nat → Int32) (t' i' k' : Nat) : mI (sW σ t i f) t' i' k' = if t' = t ∧ i' = i then f k' else mI σ t' i' k' := rfl
theorem mLsI (σ : Mem) (t i k : Nat) (v : Int32) (t' i' k' : Nat) : mL (sI σ t i k v) t' i' k' = mL σ t' i' k' := rfl
theorem mLsL (σ : Mem) (t i k : Nat) (v : Int64) (t' i' k' : Nat) : mL (sL σ t i k v) t' i' k' = if t' = t ∧ i' = i ∧ k' = k then v else mL σ t' i' k' := rfl
theorem mLsR (σ : Mem) (t i k : Nat) (v : Option Nat) (t' i' k' : Nat) : mL (sR σ t i k v) t' i' k' = mL σ t' i' k' := rfl
theorem mLsV (σ : Mem) (t i : Nat) (t' i' k' : Nat) : mL (sV σ t i) t' i' k' = mL σ t' i' k' := rfl
theorem mLfI (σ : Mem) (t i n : Nat) (v : Int32) (t' i' k' : Nat) : mL (fillI σ t i n v) t' i' k' = mL σ t' i' k' := rfl
theorem mLsW (σ : Mem) (t i : Nat) (f : Nat → Int32) (t' i' k' : Nat) : mL (sW σ t i f) t' i' k' = mL σ t' i' k' := rfl
theorem mRsI (σ : Mem) (t i k : Nat) (v : Int32) (t' i' k' : Nat) : mR (sI σ t i k v) t' i' k' = mR σ t' i' k' := rfl
theorem mRsL (σ : Mem) (t i k : Nat) (v : Int64) (t' i' k' : Nat) : mR (sL σ t i k v) t' i' k' = mR σ t' i' k' := rfl
theorem mRsR (σ : Mem) (t i k : Nat) (v : Option Nat) (t' i' k' : Nat) : mR (sR σ t i k v) t' i' k' = if t' = t ∧ i' = i ∧ k' = k then v else mR σ t' i' k' := rfl
theorem mRsV (σ : Mem) (t i : Nat) (t' i' k' : Nat) : mR (sV σ t i) t' i' k' = mR σ t' i' k' := rfl
theorem mRfI (σ : Mem) (t i n : Nat) (v : Int32) (t' i' k' : Nat) : mR (fillI σ t i n v) t' i' k' = mR σ t' i' k' := rfl
theorem mRsW (σ : Mem) (t i : Nat) (f : Nat → Int32) (t' i' k' : Nat) : mR (sW σ t i f) t' i' k' = mR σ t' i' k' := rfl
theorem mVsI (σ : Mem) (t i k : Nat) (v : Int32) (t' i' : Nat) : mV (sI σ t i k v) t' i' = mV σ t' i' := rfl
theorem mVsL (σ : Mem) (t i k : Nat) (v : Int64) (t' i' : Nat) : mV (sL σ t i k v) t' i' = mV σ t' i' := rfl
theorem mVsR (σ : Mem) (t i k : Nat) (v : Option Nat) (t' i' : Nat) : mV (sR σ t i k v) t' i' = mV σ t' i' := rfl
theorem mVsV (σ : Mem) (t i : Nat) (t' i' : Nat) : mV (sV σ t i) t' i' = if t' = t ∧ i' = i then true else mV σ t' i' := rfl
theorem mVfI (σ : Mem) (t i n : Nat) (v : Int32) (t' i' : Nat) : mV (fillI σ t i n v) t' i' = mV σ t' i' := rfl
theorem mVsW (σ : Mem) (t i : Nat) (f : Nat → Int32) (t' i' : Nat) : mV (sW σ t i f) t' i' = mV σ t' i' := rfl
/-- all is as it was but what lies under the tags l, and the slots m -/
def Fx (l : List Nat) (m : List (Nat × Nat)) (σ σ' : Mem) : Prop :=
  (∀ t i k, t ∉ l → (t, k) ∉ m → mI σ' t i k = mI σ t i k ∧ mL σ' t i k = mL σ t i k ∧ mR σ' t i k = mR σ t i k) ∧ ∀ t i, mV σ' t i = mV σ t i
section FX
variable {l : List Nat} {m : List (Nat × Nat)} {σ σ' σ'' : Mem}
theorem Fx.rf : Fx l m σ σ := ⟨fun _ _ _ _ _ => ⟨rfl, rfl, rfl⟩, fun _ _ => rfl⟩
theorem Fx.tr (h : Fx l m σ σ') (h' : Fx l m σ' σ'') : Fx l m σ σ'' :=
  ⟨fun t i k a b => ⟨(h'.1 t i k a b).1.trans (h.1 t i k a b).1, (h'.1 t i k a b).2.1.trans (h.1 t i k a b).2.1, (h'.1 t i k a b).2.2.trans (h.1 t i k a b).2.2⟩, fun t i => (h'.2 t i).trans (h.2 t i)⟩
theorem Fx.mono {l' : List Nat} {m' : List (Nat × Nat)} (h : Fx l m σ σ') (hl : ∀ t, t ∈ l → t ∈ l') (hm : ∀ z, z ∈ m → z ∈ m' ∨ z.1 ∈ l') : Fx l' m' σ σ' :=
  ⟨fun t i k a b => h.1 t i k (fun z => a (hl t z)) (fun z => (hm _ z).elim b a), fun t i => h.2 t i⟩
theorem Fx.wk {l' : List Nat} {m' : List (Nat × Nat)} (h : Fx l m σ σ') (hl : l.all (fun t => l'.contains t) = true) (hm : m.all (fun z => m'.contains z || l'.contains z.1) = true) : Fx l' m' σ σ' :=
  h.mono (fun t ht => by simpa using List.all_eq_true.mp hl t ht) (fun z hz => by simpa using List.all_eq_true.mp hm z hz)
theorem Fx.I (h : Fx l m σ σ') (t i k : Nat) (a : t ∉ l := by simp) (b : (t, k) ∉ m := by simp) : mI σ' t i k = mI σ t i k := (h.1 t i k a b).1
theorem Fx.L (h : Fx l m σ σ') (t i k : Nat) (a : t ∉ l := by simp) (b : (t, k) ∉ m := by simp) : mL σ' t i k = mL σ t i k := (h.1 t i k a b).2.1
theorem Fx.R (h : Fx l m σ σ') (t i k : Nat) (a : t ∉ l := by simp) (b : (t, k) ∉ m := by simp) : mR σ' t i k = mR σ t i k := (h.1 t i k a b).2.2
theorem Fx.V (h : Fx l m σ σ') (t i : Nat) : mV σ' t i = mV σ t i := h.2 t i
theorem Fx.sI {t i k : Nat} {v : Int32} (h : Fx l m σ σ') (ht : t ∈ l ∨ (t, k) ∈ m := by simp) : Fx l m σ (sI σ' t i k v) := by
  refine ⟨fun t' i' k' a b => ?_, fun t' i' => h.2 t' i'⟩
  rw [mIsI, mLsI, mRsI, if_neg (show ¬ (t' = t ∧ i' = i ∧ k' = k) from fun z => ht.elim (fun q => a (by rw [z.1]; exact q)) (fun q => b (by rw [z.1, z.2.2]; exact q)))]
  exact h.1 t' i' k' a b
theorem Fx.sL {t i k : Nat} {v : Int64} (h : Fx l m σ σ') (ht : t ∈ l ∨ (t, k) ∈ m := by simp) : Fx l m σ (sL σ' t i k v) := by
  refine ⟨fun t' i' k' a b => ?_, fun t' i' => h.2 t' i'⟩
  rw [mIsL, mLsL, mRsL, if_neg (show ¬ (t' = t ∧ i' = i ∧ k' = k) from fun z => ht.elim (fun q => a (by rw [z.1]; exact q)) (fun q => b (by rw [z.1, z.2.2]; exact q)))]
  exact h.1 t' i' k' a b
theorem Fx.sR {t i k : Nat} {v : Option Nat} (h : Fx l m σ σ') (ht : t ∈ l ∨ (t, k) ∈ m := by simp) : Fx l m σ (sR σ' t i k v) := by
  refine ⟨fun t' i' k' a b => ?_, fun t' i' => h.2 t' i'⟩
  rw [mIsR, mLsR, mRsR, if_neg (show ¬ (t' = t ∧ i' = i ∧ k' = k) from fun z => ht.elim (fun q => a (by rw [z.1]; exact q)) (fun q => b (by rw [z.1, z.2.2]; exact q)))]
  exact h.1 t' i' k' a b
theorem Fx.fI {t i n : Nat} {v : Int32} (h : Fx l m σ σ') (ht : t ∈ l := by simp) : Fx l m σ (fillI σ' t i n v) := by
  refine ⟨fun t' i' k' a b => ?_, fun t' i' => h.2 t' i'⟩
  rw [mIfI, mLfI, mRfI, if_neg (show ¬ (t' = t ∧ i' = i ∧ k' < n) from fun z => a (by rw [z.1]; exact ht))]
  exact h.1 t' i' k' a b
end FX
/-! loops -/
theorem lp_aux {S E : Type} {f : S → Option (S ⊕ E)} (Inv : Nat → S → Prop) (Q : E → Prop) (n : Nat)
    (hs : ∀ i s, i < n → Inv i s → (∃ s', f s = some (.inl s') ∧ Inv (i + 1) s') ∨ (∃ e, f s = some (.inr e) ∧ Q e))
    (he : ∀ s, Inv n s → ∃ e, f s = some (.inr e) ∧ Q e) : ∀ (m i : Nat) (s : S) (F : Nat), i + m = n → m < F → Inv i s → ∃ e, loopF F f s = some e ∧ Q e := by
  intro m
  induction m with
  | zero =>
    intro i s F hi hF hI
    obtain rfl : i = n := by omega
    obtain ⟨e, h1, h2⟩ := he s hI
    cases F with
    | zero => omega
    | succ F => exact ⟨e, by unfold loopF; rw [h1], h2⟩
  | succ m ih =>
    intro i s F hi hF hI
    cases F with
    | zero => omega
    | succ F =>
      rcases hs i s (by omega) hI with ⟨s', h1, h2⟩ | ⟨e, h1, h2⟩
      · obtain ⟨e, h3, h4⟩ := ih (i + 1) s' F (by omega) (by omega) h2
        exact ⟨e, by unfold loopF; rw [h1]; exact h3, h4⟩
      · exact ⟨e, by unfold loopF; rw [h1], h2⟩
/-- a loop with its invariant; it may end early -/
theorem lp_inv {S E : Type} {f : S → Option (S ⊕ E)} (Inv : Nat → S → Prop) (Q : E → Prop) (n : Nat) (hn : n < 1000)
    (hs : ∀ i s, i < n → Inv i s → (∃ s', f s = some (.inl s') ∧ Inv (i + 1) s') ∨ (∃ e, f s = some (.inr e) ∧ Q e))
    (he : ∀ s, Inv n s → ∃ e, f s = some (.inr e) ∧ Q e) {s : S} (h0 : Inv 0 s) : ∃ e, loopF FU f s = some e ∧ Q e :=
  lp_aux Inv Q n hs he n 0 s FU (by omega) hn h0
/-- a loop whose states are known -/
theorem lp_eq {S E : Type} {f : S → Option (S ⊕ E)} (st : Nat → S) (e : E) (n : Nat) (hn : n < 1000)
    (hs : ∀ i, i < n → f (st i) = some (.inl (st (i + 1)))) (he : f (st n) = some (.inr e)) : loopF FU f (st 0) = some e := by
  obtain ⟨e', h1, rfl⟩ := lp_inv (f := f) (fun i s => s = st i) (fun x => x = e) n hn (fun i s hi h => Or.inl ⟨_, by rw [h]; exact hs i hi, rfl⟩) (fun s h => ⟨e, by rw [h]; exact he, rfl⟩) (s := st 0) rfl
  exact h1
/-! numbers -/
theorem nge {i n : Nat} (h : i < n) (hn : n < 2 ^ 31 := by first | omega | decide) : ¬ (nI n ≤ nI i) := nI_ge h hn
theorem nle {i n : Nat} (h : i ≤ n) (hn : n < 2 ^ 31 := by first | omega | decide) : nI i ≤ nI n := nI_le h hn
theorem inr_ {i n : Nat} (h : i < n) (hn : n < 2 ^ 31 := by first | omega | decide) : inR (nI i) n = true := by
  unfold inR
  rw [nI_toInt (by omega)]
  simp only [Bool.and_eq_true, decide_eq_true_eq]
  omega
theorem ix_ {i : Nat} (h : i < 2 ^ 31 := by first | omega | decide) : ix (nI i) = i := nI_clamp h
theorem nn0 {i : Nat} (h : i < 2 ^ 31 := by first | omega | decide) : ¬ nI i < 0 := nI_pos h
theorem i32 (x : Int32) (n : Nat) (hn : n < 2 ^ 31 := by first | omega | decide) : x < 0 ∨ nI n ≤ x ∨ ∃ j : Nat, j < n ∧ x = nI j := pk_ix x hn
theorem zn0 : zn 0 = 0 := by decide
theorem zn1 : zn 1 = 1 := by decide
