/-! the night's end -/
def XL : List Nat := [40, 8, 9, 10, 12, 13, 22, 46, 47, 49, 51, 53, 54, 55, 56]
def XM : List (Nat × Nat) := [(7, 4), (11, 5), (1, 7), (1, 5), (21, 3), (30, 0), (30, 8), (30, 22)]
theorem Fx.ov {l : List Nat} {m : List (Nat × Nat)} {σ a b : Mem} (h1 : Fx l m σ a) (h2 : Fx l m σ b) : Fx l m σ (ovH a b) := by
  refine ⟨fun t i k g1 g2 => ?_, fun t i => ?_⟩
  · by_cases c : t < 30
    · rw [mIc c, mLc c, mRc c]
      exact h1.1 t i k g1 g2
    · rw [mIm (by omega), mLm (by omega), mRm (by omega)]
      exact h2.1 t i k g1 g2
  · by_cases c : t < 30
    · rw [mVc c]; exact h1.2 t i
    · rw [mVm (by omega)]; exact h2.2 t i
theorem ov_self {σ : Mem} : ovH σ σ = σ := ovm (fun t i k => by
    by_cases c : t < 30
    · rw [mIc c]
    · rw [mIm (by omega)]) (fun t i k => by
    by_cases c : t < 30
    · rw [mLc c]
    · rw [mLm (by omega)]) (fun t i k => by
    by_cases c : t < 30
    · rw [mRc c]
    · rw [mRm (by omega)]) (fun t i => by
    by_cases c : t < 30
    · rw [mVc c]
    · rw [mVm (by omega)])
theorem Fx_low {l : List Nat} {m : List (Nat × Nat)} {σ σ' ρ : Mem} (h : Fx l m (ovH σ ρ) (ovH σ' ρ)) (h2 : σ' = ovH σ' σ) : Fx l m σ σ' := by
  refine ⟨fun t i k g1 g2 => ?_, fun t i => ?_⟩
  · by_cases c : t < 30
    · have := h.1 t i k g1 g2
      rw [mIc c, mLc c, mRc c, mIc c, mLc c, mRc c] at this
      exact this
    · rw [h2, mIm (by omega), mLm (by omega), mRm (by omega)]
      exact ⟨rfl, rfl, rfl⟩
  · by_cases c : t < 30
    · have := h.2 t i
      rw [mVc c, mVc c] at this
      exact this
    · rw [h2, mVm (by omega)]
theorem Fx_high {l : List Nat} {m : List (Nat × Nat)} {σ σ' ρ : Mem} (h : Fx l m (ovH ρ σ) (ovH ρ σ')) (h2 : σ' = ovH σ σ') : Fx l m σ σ' := by
  refine ⟨fun t i k g1 g2 => ?_, fun t i => ?_⟩
  · by_cases c : t < 30
    · rw [h2, mIc c, mLc c, mRc c]
      exact ⟨rfl, rfl, rfl⟩
    · have := h.1 t i k g1 g2
      rw [mIm (by omega), mLm (by omega), mRm (by omega), mIm (by omega), mLm (by omega), mRm (by omega)] at this
      exact this
  · by_cases c : t < 30
    · rw [h2, mVc c]
    · have := h.2 t i
      rw [mVm (by omega), mVm (by omega)] at this
      exact this
theorem upTo_fr {σ ρ τ : Mem} {x : Int32} (h : kG_planUpTo (ovH σ ρ) x = some ((), τ)) (hU : UPF (ovH σ ρ) τ) : ∃ σ', kG_planUpTo σ x = some ((), σ') ∧ UPF σ σ' ∧ τ = ovH σ' ρ := by
  have h1 := fr_kG_planUpTo (ρ := ρ) σ x
  have h2 := fr_kG_planUpTo (ρ := σ) σ x
  rw [h] at h1
  rw [ov_self] at h2
  cases e : kG_planUpTo σ x with
  | none => rw [e] at h1; cases h1
  | some y =>
    rw [e] at h1 h2
    obtain ⟨⟨⟩, σ'⟩ := y
    have e1 : τ = ovH σ' ρ := congrArg (fun z : Unit × Mem => z.2) (Option.some.inj h1)
    have e2 : σ' = ovH σ' σ := congrArg (fun z : Unit × Mem => z.2) (Option.some.inj h2)
    refine ⟨σ', rfl, ?_, e1⟩
    rw [e1] at hU
    exact Fx_low hU e2
theorem plan_fr {σ ρ τ : Mem} {x : Int32} (h : kM_plan (ovH ρ σ) x = some ((), τ)) : ∃ σ', kM_plan σ x = some ((), σ') ∧ σ' = ovH σ σ' ∧ τ = ovH ρ σ' := by
  have h1 := fr_kM_plan (ρ := ρ) σ x
  have h2 := fr_kM_plan (ρ := σ) σ x
  rw [h] at h1
  rw [ov_self] at h2
  cases e : kM_plan σ x with
  | none => rw [e] at h1; cases h1
  | some y =>
    rw [e] at h1 h2
    obtain ⟨⟨⟩, σ'⟩ := y
    have e1 : τ = ovH ρ σ' := congrArg (fun z : Unit × Mem => z.2) (Option.some.inj h1)
    have e2 : σ' = ovH σ σ' := congrArg (fun z : Unit × Mem => z.2) (Option.some.inj h2)
    exact ⟨σ', rfl, e2, e1⟩
theorem nx_BI {σ μ : Mem} {N : Nat} (hB : BI σ N) (h : Fx XL XM σ μ) (hst : ∀ q, q < N → ∃ s, s < 8 ∧ mI μ 40 0 q = nI s ∧ mI μ 21 q 3 = nI s) : BI μ N := by
  obtain ⟨b1, b2, b3, b4, b5⟩ := hB
  refine ⟨b1, by rw [h.I 5 0 1 (by decide) (by decide)]; exact b2, by rw [h.I 30 0 20 (by decide) (by decide)]; exact b3, fun q hq => ?_, fun q hq => by rw [h.V, h.V]; exact b5 q hq⟩
  obtain ⟨c0, c1, c2, c3, c4, c5, c6, c7, c8, c9, c10⟩ := b4 q hq
  obtain ⟨s, hs, e1, e2⟩ := hst q hq
  unfold BIq
  rw [h.R 6 0 q (by decide) (by simp [XM]), h.I 41 0 q (by decide) (by simp [XM]), h.I 42 0 q (by decide) (by simp [XM]), h.I 43 0 q (by decide) (by simp [XM]), h.I 44 0 q (by decide) (by simp [XM]), h.I 45 0 q (by decide) (by simp [XM]), h.I 21 q 0 (by decide) (by decide), h.I 21 q 1 (by decide) (by decide), h.I 21 q 2 (by decide) (by decide), h.I 21 q 4 (by decide) (by decide), h.I 21 q 5 (by decide) (by decide), h.L 21 q 6 (by decide) (by decide), h.L 48 0 q (by decide) (by simp [XM]), e1, e2]
  exact ⟨c0, c1, ⟨s, hs, rfl⟩, c3, c4, c5, c6, rfl, c8, c9, c10⟩
theorem fMiss_8 {s : Nat} {a b x : Int32} (hs : s < 8) : ∃ s', s' < 8 ∧ fMiss (nI s) a b x = nI s' := by
  unfold fMiss
  by_cases c0 : nI s = 0 ∨ nI s = 1
  · rw [if_pos c0]
    by_cases c1 : x < a
    · rw [if_pos c1]; exact ⟨s, hs, rfl⟩
    · rw [if_neg c1]
      by_cases c2 : b ≤ x
      · rw [if_pos c2]; exact ⟨s, hs, rfl⟩
      · rw [if_neg c2]; exact ⟨6, by omega, rfl⟩
  · rw [if_neg c0]; exact ⟨s, hs, rfl⟩
theorem fTurn_8 {s : Nat} {b u x : Int32} (hs : s < 8) : ∃ s', s' < 8 ∧ fTurn (nI s) b u x = nI s' := by
  unfold fTurn
  by_cases c0 : nI s = 2
  · rw [if_pos c0]
    by_cases c1 : b = x
    · rw [if_pos c1]; exact ⟨3, by omega, rfl⟩
    · rw [if_neg c1]; exact ⟨s, hs, rfl⟩
  · rw [if_neg c0]
    by_cases c1 : nI s = 0
    · rw [if_pos c1]
      by_cases c2 : x ≤ u
      · rw [if_pos c2]; exact ⟨s, hs, rfl⟩
      · rw [if_neg c2]; exact ⟨5, by omega, rfl⟩
    · rw [if_neg c1]; exact ⟨s, hs, rfl⟩
/-- who wants the night after the miss has come -/
theorem miss_two {s : Nat} {a b x : Int32} (hs : s < 8) (h1 : fMiss (nI s) a b x ≤ 2) (h2 : a ≤ x) (h3 : x < b) : fMiss (nI s) a b x = 2 := by
  obtain ⟨c1, c2, c3, c4, c5, c6, c7⟩ := st8 s hs
  unfold fMiss at h1 ⊢
  by_cases c0 : nI s = 0 ∨ nI s = 1
  · rw [if_pos c0, if_neg (Int32.not_lt.mpr h2), if_neg (Int32.not_le.mpr h3)] at h1
    exact absurd h1 (by decide)
  · rw [if_neg c0] at h1 ⊢
    have := c1.mp h1
    refine c4.mpr ?_
    have n0 : s ≠ 0 := fun z => c0 (Or.inl (c2.mpr z))
    have n1 : s ≠ 1 := fun z => c0 (Or.inr (c3.mpr z))
    omega
