/-- as Fx, but new things may have come -/
def Gx (l : List Nat) (m : List (Nat × Nat)) (σ σ' : Mem) : Prop := ∀ t i k, t ∉ l → (t, k) ∉ m → mI σ' t i k = mI σ t i k ∧ mL σ' t i k = mL σ t i k ∧ mR σ' t i k = mR σ t i k
section GX
variable {l : List Nat} {m : List (Nat × Nat)} {σ σ' σ'' : Mem}
theorem Fx.gx (h : Fx l m σ σ') : Gx l m σ σ' := h.1
theorem Gx.tr (h : Gx l m σ σ') (h' : Gx l m σ' σ'') : Gx l m σ σ'' := fun t i k a b => ⟨(h' t i k a b).1.trans (h t i k a b).1, (h' t i k a b).2.1.trans (h t i k a b).2.1, (h' t i k a b).2.2.trans (h t i k a b).2.2⟩
theorem Gx.wk {l' : List Nat} {m' : List (Nat × Nat)} (h : Gx l m σ σ') (hl : l.all (fun t => l'.contains t) = true) (hm : m.all (fun z => m'.contains z || l'.contains z.1) = true) : Gx l' m' σ σ' := fun t i k a b =>
  h t i k (fun z => a (by simpa using List.all_eq_true.mp hl t z)) (fun z => by
    have := List.all_eq_true.mp hm _ z
    simp only [Bool.or_eq_true, List.contains_iff_mem] at this
    exact this.elim b a)
theorem Gx.sI {t i k : Nat} {v : Int32} (h : Gx l m σ σ') (ht : t ∈ l ∨ (t, k) ∈ m := by simp) : Gx l m σ (sI σ' t i k v) := fun t' i' k' a b => by
  rw [mIsI, mLsI, mRsI, if_neg (show ¬ (t' = t ∧ i' = i ∧ k' = k) from fun z => ht.elim (fun q => a (by rw [z.1]; exact q)) (fun q => b (by rw [z.1, z.2.2]; exact q)))]
  exact h t' i' k' a b
theorem Gx.sL {t i k : Nat} {v : Int64} (h : Gx l m σ σ') (ht : t ∈ l ∨ (t, k) ∈ m := by simp) : Gx l m σ (sL σ' t i k v) := fun t' i' k' a b => by
  rw [mIsL, mLsL, mRsL, if_neg (show ¬ (t' = t ∧ i' = i ∧ k' = k) from fun z => ht.elim (fun q => a (by rw [z.1]; exact q)) (fun q => b (by rw [z.1, z.2.2]; exact q)))]
  exact h t' i' k' a b
theorem Gx.sR {t i k : Nat} {v : Option Nat} (h : Gx l m σ σ') (ht : t ∈ l ∨ (t, k) ∈ m := by simp) : Gx l m σ (sR σ' t i k v) := fun t' i' k' a b => by
  rw [mIsR, mLsR, mRsR, if_neg (show ¬ (t' = t ∧ i' = i ∧ k' = k) from fun z => ht.elim (fun q => a (by rw [z.1]; exact q)) (fun q => b (by rw [z.1, z.2.2]; exact q)))]
  exact h t' i' k' a b
theorem Gx.sV {t i : Nat} (h : Gx l m σ σ') : Gx l m σ (sV σ' t i) := fun t' i' k' a b => h t' i' k' a b
theorem Gx.sW {t i : Nat} {f : Nat → Int32} (h : Gx l m σ σ') (ht : t ∈ l := by simp) : Gx l m σ (sW σ' t i f) := fun t' i' k' a b => by
  rw [mIsW, mLsW, mRsW, if_neg (show ¬ (t' = t ∧ i' = i) from fun z => a (by rw [z.1]; exact ht))]
  exact h t' i' k' a b
theorem Gx.I (h : Gx l m σ σ') (t i k : Nat) (a : t ∉ l := by simp) (b : (t, k) ∉ m := by simp) : mI σ' t i k = mI σ t i k := (h t i k a b).1
theorem Gx.L (h : Gx l m σ σ') (t i k : Nat) (a : t ∉ l := by simp) (b : (t, k) ∉ m := by simp) : mL σ' t i k = mL σ t i k := (h t i k a b).2.1
theorem Gx.R (h : Gx l m σ σ') (t i k : Nat) (a : t ∉ l := by simp) (b : (t, k) ∉ m := by simp) : mR σ' t i k = mR σ t i k := (h t i k a b).2.2
theorem Gx.fx (h : Gx l m σ σ') : Fx l m σ (σ'.1, σ'.2.1, σ'.2.2.1, σ.2.2.2) := ⟨h, fun _ _ => rfl⟩
theorem HI.gx (h : Gx l m σ σ') (hn : nohit HT l m = true) (hv : ∀ p, mV σ' 20 p = mV σ 20 p) (hI : HI σ) : HI σ' := fun p hp => by
  have h0 := HI.fx h.fx hn hI p hp
  unfold HIp at h0 ⊢
  rw [hv p]
  exact h0
theorem TI.gx {R : Nat} (h : Gx l m σ σ') (hn : nohit TT2 l m = true) (hs : noslot 30 32 l m = true) (hv : ∀ k, mV σ' 23 k = mV σ 23 k) (hT : TI σ R) : TI σ' R := by
  obtain ⟨a, b, c, d, e, f⟩ := TI.fx h.fx hn hs hT
  exact ⟨a, b, c, d, e, fun k hk => by rw [hv k]; exact f k hk⟩
end GX
theorem PS_out {σ : Mem} {N d k q : Nat} (hI : HI σ) (hB : BI σ N) (hq : N ≤ q) : PS σ N d k q = none := by
  have key : ∀ n pv, (pnight (hvN σ n) (WLi σ n N) pv).2 q = none := fun n pv => by
    cases e : (pnight (hvN σ n) (WLi σ n N) pv).2 q with
    | none => rfl
    | some s =>
      obtain ⟨⟨-, -, g3, -⟩, -⟩ := pnight_ok (pv := pv) (WHN (n := n) hI) (wli_ok (n := n) hB)
      obtain ⟨e', he', hq'⟩ := (keepAll_ok (H := hvN σ n) (wli_ok (n := n) hB)).2.2 q (g3 q s e).2.1
      have := (wli_mem he').1
      omega
  cases k with
  | zero => exact key _ _
  | succ k => exact key _ _
theorem mspots_loop {σ : Mem} {N : Nat} (hN : N < 40) : ∃ σ', loopF FU (kM_promise_s153 (nI N)) (0, σ) = some σ' ∧ Fx [49] [] σ σ' ∧ (∀ k, k < 60 → mI σ' 49 0 (60 * N + k) = -1) ∧ ∀ q k, q ≠ N → k < 60 → mI σ' 49 0 (60 * q + k) = mI σ 49 0 (60 * q + k) := by
  refine lp_inv (f := kM_promise_s153 (nI N)) (fun i s => ∃ τ, s = (nI i, τ) ∧ Fx [49] [] σ τ ∧ (∀ k, k < i → mI τ 49 0 (60 * N + k) = -1) ∧ ∀ q k, q ≠ N → k < 60 → mI τ 49 0 (60 * q + k) = mI σ 49 0 (60 * q + k)) _ 60 (by omega) (fun i s hi hs => ?_) (fun s hs => ?_) ⟨σ, rfl, Fx.rf, fun k hk => by omega, fun _ _ _ _ => rfl⟩
  · obtain ⟨τ, rfl, a1, a2, a3⟩ := hs
    refine Or.inl ?_
    simp only [kM_promise_s153, show ¬ (60 : Int32) ≤ nI i from nge hi, if_false, ixq, inr_ (show 60 * N + i < 2400 by omega), if_true, ix_ (show 60 * N + i < 2 ^ 31 by omega), nI_1]
    refine ⟨_, rfl, _, rfl, a1.sI, fun k hk => ?_, fun q k hne hk => ?_⟩
    · rw [mIsI]
      by_cases e : k = i
      · rw [if_pos ⟨rfl, rfl, by rw [e]⟩]
      · rw [if_neg (by omega)]
        exact a2 k (by omega)
    · rw [mIsI, if_neg (by omega)]
      exact a3 q k hne hk
  · obtain ⟨τ, rfl, a⟩ := hs
    exact ⟨τ, by simp only [kM_promise_s153, show (60 : Int32) ≤ nI 60 from nle (Nat.le_refl 60), if_true], a⟩
theorem E_promise {σ : Mem} {x1 x2 x3 x4 x5 : Int32} (hI : INV σ) : EQ2 (fun σ => kG_promise σ x1 x2 x3 x4 x5) (fun σ => kM_promise σ x1 x2 x3 x4 x5) σ := by
  obtain ⟨N, d, P, R, hI⟩ := hI
  have hB := hI.2.1
  have hN := hB.1
  have hT := hI.2.2.2.2.2.2.1
  obtain ⟨d1, d2, d3, o, ho, eo1, eo2⟩ := hI.2.2.1
  obtain ⟨p1, p2, p3, p4⟩ := hI.2.2.2.2.1
  obtain ⟨c, hc, ⟨σ1, k1, k2⟩, k3, hm⟩ := why_ok (x1 := x1) (x2 := x2) (x3 := x3) (x4 := x4) (but := -1) hI
  have e15 : mI σ1 1 0 5 = nI d := by rw [k2.I 1 0 5]; exact d2
  -- the refusals
  have hrefuse : ∀ r : Int32, ¬ r = 0 → (kG_promise σ x1 x2 x3 x4 x5 = some (-1 - r, σ1)) → (∀ σ2, Fx [51, 54, 63, 64] [(30, 22)] (sI σ1 30 0 0 0) σ2 → kM_why (sI σ1 30 0 0 0) x1 x2 x3 x4 (-1) = some (nI c, σ2) → kM_promise σ1 x1 x2 x3 x4 x5 = some (-1 - r, σ2)) → EQ2 (fun σ => kG_promise σ x1 x2 x3 x4 x5) (fun σ => kM_promise σ x1 x2 x3 x4 x5) σ := fun r _ hg hmm => by
    have hF : Fx [8, 9, 10, 18, 19] [(7, 4), (30, 0)] σ (sI σ1 30 0 0 0) := (k2.wk (l' := [8, 9, 10, 18, 19]) (m' := [(7, 4), (30, 0)]) rfl rfl).sI
    obtain ⟨σ2, m1, m2, -⟩ := hm _ (SMd.fx hI hF rfl rfl rfl rfl)
    exact ⟨_, σ1, σ2, hg, hmm σ2 m2 m1, N, d, P, R, (hI.scr (k2.wk (by decide) (by decide))).thr.scr (m2.wk (by decide) (by decide))⟩
  have hF0 : Fx [8, 9, 10, 18, 19] [(7, 4), (30, 0)] σ (sI σ1 30 0 0 0) := (k2.wk (l' := [8, 9, 10, 18, 19]) (m' := [(7, 4), (30, 0)]) rfl rfl).sI
  by_cases c0 : c = 0
  · subst c0
    by_cases n40 : N = 40
    · rw [if_pos rfl, if_pos ⟨rfl, n40⟩] at k1
      refine hrefuse 4 (by decide) ?_ (fun σ2 m2 m1 => ?_)
      · unfold kG_promise
        rw [k1]
        simp only [Option.bind_some, show ¬ ((4 : Int32) = 0) by decide, if_false, kG_promise_j35]
      · have h20 : mI σ2 30 0 20 = 40 := by rw [m2.I 30 0 20, hF0.I 30 0 20, hB.2.2.1, n40]; rfl
        unfold kM_promise kM_can
        simp only [m1, Option.bind_some, show nI 0 ≤ 0 by decide, if_true, h20, show ¬ ((4 : Int32) = 0) by decide, if_false, kM_promise_j34, show ¬ ((4 : Int32) ≤ 0) by decide]
    · rw [if_pos rfl, if_neg (fun z => n40 z.2)] at k1
      obtain ⟨w, a, b, rfl, rfl, rfl, hw, ha, hab, hb⟩ := k3 rfl
      by_cases ct : x5 = -1 ∨ nI d ≤ x5
      · -- it is made
        sorry
      · simp only [not_or] at ct
        have hlt : ¬ nI d ≤ x5 := ct.2
        refine hrefuse 5 (by decide) ?_ (fun σ2 m2 m1 => ?_)
        · unfold kG_promise
          rw [k1]
          simp only [Option.bind_some, if_true, ct.1, if_false, e15, hlt, kG_promise_j35, show ¬ ((5 : Int32) = 0) by decide]
        · have h20 : mI σ2 30 0 20 = nI N := by rw [m2.I 30 0 20, hF0.I 30 0 20, hB.2.2.1]
          have h8 : mI σ2 30 0 8 = nI d := by rw [m2.I 30 0 8, hF0.I 30 0 8]; exact d3
          have hn40 : ¬ nI N = 40 := fun z => n40 ((nI_eq (b := 40) (by omega) (by decide)).mp z)
          unfold kM_promise kM_can
          simp only [m1, Option.bind_some, show nI 0 ≤ 0 by decide, if_true, h20, hn40, if_false, h8, hlt, ct.1, kM_promise_j34, show ¬ ((5 : Int32) ≤ 0) by decide]
  · rw [if_neg c0] at k1
    have hne : ¬ nI c = 0 := nI_ne0 (by omega) (by omega)
    have hnle : ¬ nI c ≤ 0 := nI_nle (by omega) (by omega)
    refine hrefuse (nI c) hne ?_ (fun σ2 m2 m1 => ?_)
    · unfold kG_promise
      rw [k1]
      simp only [Option.bind_some, hne, if_false, kG_promise_j35]
    · unfold kM_promise kM_can
      simp only [m1, Option.bind_some, hnle, if_false, hne, kM_promise_j34]
