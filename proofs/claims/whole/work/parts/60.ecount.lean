theorem E_door {σ : Mem} {x1 : Int32} (hI : INV σ) : EQ2 (fun σ => kG_door σ x1) (fun σ => kM_door σ x1) σ := by
  obtain ⟨N, d, P, R, hI⟩ := hI
  have hH := hI.1
  have hno : kG_door σ x1 = some (0, σ) → kM_door σ x1 = some (0, sI σ 30 0 0 0) → EQ2 (fun σ => kG_door σ x1) (fun σ => kM_door σ x1) σ := fun a b => ⟨0, σ, _, a, b, N, d, P, R, hI.thr⟩
  rcases i32 x1 16 with ho | ho | ⟨p, hp, rfl⟩
  · refine hno ?_ ?_
    · unfold kG_door kH_join; rw [isPlace_out (Or.inl ho)]; rfl
    · unfold kM_door; rw [mPlace_out (Or.inl ho)]; rfl
  · refine hno ?_ ?_
    · unfold kG_door kH_join; rw [isPlace_out (Or.inr ho)]; rfl
    · unfold kM_door; rw [mPlace_out (Or.inr ho)]; rfl
  · by_cases hp1 : p + 1 < 16
    · obtain ⟨a0, a1, -⟩ := hH p hp
      obtain ⟨b0, b1, -⟩ := hH (p + 1) hp1
      have z31 : ∀ j, mI (sI σ 30 0 0 0) 31 0 j = mI σ 31 0 j := fun j => rfl
      have z32 : ∀ j, mI (sI σ 30 0 0 0) 32 0 j = mI σ 32 0 j := fun j => rfl
      have z34 : ∀ j, mI (sI σ 30 0 0 0) 34 0 j = mI σ 34 0 j := fun j => rfl
      obtain ⟨C, hC⟩ : ∃ C : Prop, C = (mI σ 31 0 p = 1 ∧ mI σ 31 0 (p + 1) = 1 ∧ mI σ 32 0 p = mI σ 32 0 (p + 1) ∧ mI σ 34 0 p = -1 ∧ mI σ 34 0 (p + 1) = -1) := ⟨_, rfl⟩
      have hmo : ∀ τ : Mem, (∀ j, mI τ 31 0 j = mI σ 31 0 j) → (∀ j, mI τ 32 0 j = mI σ 32 0 j) → (∀ j, mI τ 34 0 j = mI σ 34 0 j) → (C → kM_door τ (nI p) = some (1, sI (sI (sI τ 30 0 0 0) 34 0 p (nI (p + 1))) 34 0 (p + 1) (nI p))) ∧ (¬ C → kM_door τ (nI p) = some (0, sI τ 30 0 0 0)) := by
        intro τ q31 q32 q34
        have y31 : ∀ j, mI (sI τ 30 0 0 0) 31 0 j = mI σ 31 0 j := fun j => by rw [mIsI, if_neg (by omega), q31]
        have y32 : ∀ j, mI (sI τ 30 0 0 0) 32 0 j = mI σ 32 0 j := fun j => by rw [mIsI, if_neg (by omega), q32]
        have y34 : ∀ j, mI (sI τ 30 0 0 0) 34 0 j = mI σ 34 0 j := fun j => by rw [mIsI, if_neg (by omega), q34]
        unfold kM_door
        simp only [mPlace_in hp, Option.bind_some, show ¬ ((1 : Int32) = 0) by decide, if_false, nI_1, mPlace_in hp1, inr_ hp, inr_ hp1, if_true, ix_ (show p < 2 ^ 31 by omega), ix_ (show p + 1 < 2 ^ 31 by omega), y31, y32, y34]
        rw [hC]
        by_cases c1 : mI σ 31 0 p = 1
        · by_cases c2 : mI σ 31 0 (p + 1) = 1
          · by_cases c3 : mI σ 32 0 p = mI σ 32 0 (p + 1)
            · by_cases c4 : mI σ 34 0 p = -1
              · by_cases c5 : mI σ 34 0 (p + 1) = -1
                · simp [c1, c2, c3, c4, c5]
                · simp [c1, c2, c3, c4, c5]
              · simp [c1, c2, c3, c4]
            · simp [c1, c2, c3]
          · simp [c1, c2]
        · simp [c1]
      have hcl : (C → kH_join σ (nI p) = some (1, sI (sI σ 20 p 3 (nI (p + 1))) 20 (p + 1) 3 (nI p))) ∧ (¬ C → kH_join σ (nI p) = some (0, σ)) := by
        unfold kH_join
        simp only [isPlace_in hp, Option.bind_some, show ¬ ((1 : Int32) = 0) by decide, if_false, nI_1, isPlace_in hp1, inr_ hp, inr_ hp1, if_true, ix_ (show p < 2 ^ 31 by omega), ix_ (show p + 1 < 2 ^ 31 by omega), a1, b1]
        rw [hC]
        by_cases hr : isRm σ p = true
        · by_cases hr1 : isRm σ (p + 1) = true
          · obtain ⟨f0, f1, f2, f3, -⟩ := (hH p hp).2.2.2.2.2.2.1 hr
            obtain ⟨g0, g1, g2, g3, -⟩ := (hH (p + 1) hp1).2.2.2.2.2.2.1 hr1
            simp only [hr, hr1, if_true, Option.elim_some, f0, f1, f3, g0, g1, g3]
            by_cases c1 : mI σ 31 0 p = 1
            · by_cases c2 : mI σ 31 0 (p + 1) = 1
              · by_cases c3 : mI σ 32 0 p = mI σ 32 0 (p + 1)
                · by_cases c4 : mI σ 34 0 p = -1
                  · by_cases c5 : mI σ 34 0 (p + 1) = -1
                    · simp [c1, c2, c3, c4, c5]
                    · simp [c1, c2, c3, c4, c5]
                  · simp [c1, c2, c3, c4]
                · simp [c1, c2, c3]
              · simp [c1, c2]
            · simp [c1]
          · have : ¬ mI σ 31 0 (p + 1) = 1 := fun z => hr1 (rm_kd hp1 (by simp [z]))
            simp [hr, hr1, this]
        · have : ¬ mI σ 31 0 p = 1 := fun z => hr (rm_kd hp (by simp [z]))
          by_cases hr1 : isRm σ (p + 1) = true
          · simp [hr, hr1, this]
          · simp [hr, hr1, this]
      by_cases c : C
      · obtain ⟨c1, c2, c3, c4, c5⟩ := hC ▸ c
        have hr : isRm σ p = true := rm_kd hp (by simp [c1])
        have hr1 : isRm σ (p + 1) = true := rm_kd hp1 (by simp [c2])
        obtain ⟨d1, d2, d3, -⟩ := hI.2.2.1
        obtain ⟨p1, p2, p3, p4⟩ := hI.2.2.2.2.1
        obtain ⟨τ, hτ⟩ : ∃ τ, τ = sI (sI σ 20 p 3 (nI (p + 1))) 20 (p + 1) 3 (nI p) := ⟨_, rfl⟩
        have A3 : kG_replanFrom τ 0 = some ((), sI τ 1 0 7 (nI d)) := replan0 (P := P) (by rw [hτ]; simp [mIsI, mIsL, mIsR, mIsV, mIfI, mIsW, mLsI, mLsL, mLsR, mLsV, mLfI, mLsW, mRsI, mRsL, mRsR, mRsV, mRfI, mRsW, mVsI, mVsL, mVsR, mVsV, mVfI, mVsW]; exact d2) (by rw [hτ]; simp [mIsI, mIsL, mIsR, mIsV, mIfI, mIsW, mLsI, mLsL, mLsR, mLsV, mLfI, mLsW, mRsI, mRsL, mRsR, mRsV, mRfI, mRsW, mVsI, mVsL, mVsR, mVsV, mVfI, mVsW]; exact p1) p2 p3
        obtain ⟨σ1, hσ1⟩ : ∃ σ1, σ1 = sI τ 1 0 7 (nI d) := ⟨_, rfl⟩
        obtain ⟨σ2, hσ2⟩ : ∃ σ2, σ2 = sI (sI (sI σ1 30 0 0 0) 34 0 p (nI (p + 1))) 34 0 (p + 1) (nI p) := ⟨_, rfl⟩
        have w31 : ∀ j, mI σ2 31 0 j = mI σ 31 0 j := fun j => by rw [hσ2, hσ1, hτ]; simp [mIsI, mIsL, mIsR, mIsV, mIfI, mIsW, mLsI, mLsL, mLsR, mLsV, mLfI, mLsW, mRsI, mRsL, mRsR, mRsV, mRfI, mRsW, mVsI, mVsL, mVsR, mVsV, mVfI, mVsW]
        have hrm := rm_eq w31
        refine ⟨1, σ1, σ2, ?_, ?_, N, d, d, R, ?_⟩
        · show kG_door σ (nI p) = _
          unfold kG_door
          rw [hcl.1 c, ← hτ]
          simp only [Option.bind_some, show ¬ ((1 : Int32) = 0) by decide, if_false, A3, ← hσ1]
        · show kM_door σ1 (nI p) = _
          rw [(hmo σ1 (fun j => by rw [hσ1, hτ]; simp [mIsI, mIsL, mIsR, mIsV, mIfI, mIsW, mLsI, mLsL, mLsR, mLsV, mLfI, mLsW, mRsI, mRsL, mRsR, mRsV, mRfI, mRsW, mVsI, mVsL, mVsR, mVsV, mVfI, mVsW]) (fun j => by rw [hσ1, hτ]; simp [mIsI, mIsL, mIsR, mIsV, mIfI, mIsW, mLsI, mLsL, mLsR, mLsV, mLfI, mLsW, mRsI, mRsL, mRsR, mRsV, mRfI, mRsW, mVsI, mVsL, mVsR, mVsV, mVfI, mVsW]) (fun j => by rw [hσ1, hτ]; simp [mIsI, mIsL, mIsR, mIsV, mIfI, mIsW, mLsI, mLsL, mLsR, mLsV, mLfI, mLsW, mRsI, mRsL, mRsR, mRsV, mRfI, mRsW, mVsI, mVsL, mVsR, mVsV, mVfI, mVsW])).1 c, ← hσ2]
        · refine INV'.hs hI (fun t i k g1 g2 => ?_) (fun t i g => by rw [hσ2, hσ1, hτ]; rfl) (fun j hj => ?_) (fun j hj => ?_) (by rw [hσ2, hσ1]; simp [mIsI, mIsL, mIsR, mIsV, mIfI, mIsW, mLsI, mLsL, mLsR, mLsV, mLfI, mLsW, mRsI, mRsL, mRsR, mRsV, mRfI, mRsW, mVsI, mVsL, mVsR, mVsV, mVfI, mVsW]) (by omega) (by omega) (fun n h1 h2 => by omega)
          · have t20 : t ≠ 20 := fun z => g1 (by rw [z]; decide)
            have t34 : t ≠ 34 := fun z => g1 (by rw [z]; decide)
            simp only [List.mem_cons, List.not_mem_nil, or_false, not_or, Prod.mk.injEq, not_and] at g2
            rw [hσ2, hσ1, hτ]
            refine ⟨?_, rfl, rfl⟩
            simp only [mIsI, mIsL, mIsR, mIsV, mIfI, mIsW, mLsI, mLsL, mLsR, mLsV, mLfI, mLsW, mRsI, mRsL, mRsR, mRsV, mRfI, mRsW, mVsI, mVsL, mVsR, mVsV, mVfI, mVsW, t20, t34, false_and, if_false]
            rw [if_neg (fun z => g2.2 z.1 z.2.2), if_neg (fun z => g2.1 z.1 z.2.2)]
          · obtain ⟨e1, e2, e3, e4, e5, e6, e7, e8⟩ := hH j hj
            have q20 : ∀ k, k ≠ 3 → mI σ2 20 j k = mI σ 20 j k := fun k hk => by rw [hσ2, hσ1, hτ]; simp [mIsI, mIsL, mIsR, mIsV, mIfI, mIsW, mLsI, mLsL, mLsR, mLsV, mLfI, mLsW, mRsI, mRsL, mRsR, mRsV, mRfI, mRsW, mVsI, mVsL, mVsR, mVsV, mVfI, mVsW, hk]
            have q3 : mR σ2 3 0 j = mR σ 3 0 j := by rw [hσ2, hσ1, hτ]; rfl
            have q4 : mI σ2 4 0 j = mI σ 4 0 j := by rw [hσ2, hσ1, hτ]; simp [mIsI, mIsL, mIsR, mIsV, mIfI, mIsW, mLsI, mLsL, mLsR, mLsV, mLfI, mLsW, mRsI, mRsL, mRsR, mRsV, mRfI, mRsW, mVsI, mVsL, mVsR, mVsV, mVfI, mVsW]
            have qV : mV σ2 20 j = mV σ 20 j := by rw [hσ2, hσ1, hτ]; rfl
            have q32 : mI σ2 32 0 j = mI σ 32 0 j := by rw [hσ2, hσ1, hτ]; simp [mIsI, mIsL, mIsR, mIsV, mIfI, mIsW, mLsI, mLsL, mLsR, mLsV, mLfI, mLsW, mRsI, mRsL, mRsR, mRsV, mRfI, mRsW, mVsI, mVsL, mVsR, mVsV, mVfI, mVsW]
            have q33 : mI σ2 33 0 j = mI σ 33 0 j := by rw [hσ2, hσ1, hτ]; simp [mIsI, mIsL, mIsR, mIsV, mIfI, mIsW, mLsI, mLsL, mLsR, mLsV, mLfI, mLsW, mRsI, mRsL, mRsR, mRsV, mRfI, mRsW, mVsI, mVsL, mVsR, mVsV, mVfI, mVsW]
            have q35 : mI σ2 35 0 j = mI σ 35 0 j := by rw [hσ2, hσ1, hτ]; simp [mIsI, mIsL, mIsR, mIsV, mIfI, mIsW, mLsI, mLsL, mLsR, mLsV, mLfI, mLsW, mRsI, mRsL, mRsR, mRsV, mRfI, mRsW, mVsI, mVsL, mVsR, mVsV, mVfI, mVsW]
            have q36 : mL σ2 36 0 j = mL σ 36 0 j := by rw [hσ2, hσ1, hτ]; rfl
            have q37 : mI σ2 37 0 j = mI σ 37 0 j := by rw [hσ2, hσ1, hτ]; simp [mIsI, mIsL, mIsR, mIsV, mIfI, mIsW, mLsI, mLsL, mLsR, mLsV, mLfI, mLsW, mRsI, mRsL, mRsR, mRsV, mRfI, mRsW, mVsI, mVsL, mVsR, mVsV, mVfI, mVsW]
            have q206 : mL σ2 20 j 6 = mL σ 20 j 6 := by rw [hσ2, hσ1, hτ]; rfl
            have q34 : ∀ i, mI σ2 34 0 i = if i = p + 1 then nI p else if i = p then nI (p + 1) else mI σ 34 0 i := fun i => by
              rw [hσ2, hσ1, hτ]
              simp only [mIsI, mIsL, mIsR, mIsV, mIfI, mIsW, mLsI, mLsL, mLsR, mLsV, mLfI, mLsW, mRsI, mRsL, mRsR, mRsV, mRfI, mRsW, mVsI, mVsL, mVsR, mVsV, mVfI, mVsW]
              by_cases x1 : i = p + 1
              · simp [x1]
              · by_cases x2 : i = p
                · simp [x1, x2]
                · simp [x1, x2]
            have q203 : mI σ2 20 j 3 = if j = p + 1 then nI p else if j = p then nI (p + 1) else mI σ 20 j 3 := by
              rw [hσ2, hσ1, hτ]
              simp only [mIsI, mIsL, mIsR, mIsV, mIfI, mIsW, mLsI, mLsL, mLsR, mLsV, mLfI, mLsW, mRsI, mRsL, mRsR, mRsV, mRfI, mRsW, mVsI, mVsL, mVsR, mVsV, mVfI, mVsW]
              by_cases x1 : j = p + 1
              · simp [x1]
              · by_cases x2 : j = p
                · simp [x1, x2]
                · simp [x1, x2]
            unfold HIp
            rw [hrm, w31, q3, q4, qV, q37, q36]
            refine ⟨e1, e2, e3, e4, e5, fun h => ?_, fun h => ?_, ?_⟩
            · have x1 : j ≠ p + 1 := fun z => by rw [z, hr1] at h; cases h
              have x2 : j ≠ p := fun z => by rw [z, hr] at h; cases h
              rw [q34, if_neg x1, if_neg x2]
              exact e6 h
            · obtain ⟨f0, f1, f2, f3, f4, f5, f6, f7, f8, f9⟩ := e7 h
              rw [q20 0 (by omega), q20 1 (by omega), q20 2 (by omega), q20 4 (by omega), q20 5 (by omega), q206, q32, q33, q35, q34, q203]
              refine ⟨f0, f1, f2, ?_, f4, f5, f6, f7, f8, f9⟩
              by_cases x1 : j = p + 1
              · rw [if_pos x1, if_pos x1]
              · rw [if_neg x1, if_neg x1]
                by_cases x2 : j = p
                · rw [if_pos x2, if_pos x2]
                · rw [if_neg x2, if_neg x2]; exact f3
            · by_cases x1 : j = p + 1
              · refine Or.inr (Or.inr ⟨by omega, ?_, ?_, ?_, ?_⟩)
                · rw [q34, if_pos x1]; congr 1; omega
                · rw [x1]; exact c2
                · rw [q34, if_neg (by omega), if_pos (by omega)]; congr 1; omega
                · rw [w31, show j - 1 = p by omega]; exact c1
              · by_cases x2 : j = p
                · refine Or.inr (Or.inl ⟨by omega, ?_, ?_, ?_, ?_⟩)
                  · rw [q34, if_neg x1, if_pos x2, x2]
                  · rw [x2]; exact c1
                  · rw [q34, if_pos (by omega), x2]
                  · rw [w31, x2]; exact c2
                · rw [q34, if_neg x1, if_neg x2]
                  rcases e8 with y | ⟨y1, y2, y3, y4, y5⟩ | ⟨y1, y2, y3, y4, y5⟩
                  · exact Or.inl y
                  · have n1 : j + 1 ≠ p := fun z => by rw [z, c4] at y4; exact nm1 j (by omega) y4.symm
                    have n2 : j + 1 ≠ p + 1 := by omega
                    exact Or.inr (Or.inl ⟨y1, y2, y3, by rw [q34, if_neg n2, if_neg n1]; exact y4, by rw [w31]; exact y5⟩)
                  · have n1 : j - 1 ≠ p := by omega
                    have n2 : j - 1 ≠ p + 1 := fun z => by rw [z, c5] at y4; exact nm1 j (by omega) y4.symm
                    exact Or.inr (Or.inr ⟨y1, y2, y3, by rw [q34, if_neg n2, if_neg n1]; exact y4, by rw [w31]; exact y5⟩)
          · refine ⟨by rw [hrm]; exact hj, w31 j, by rw [hσ2, hσ1, hτ]; simp [mIsI, mIsL, mIsR, mIsV, mIfI, mIsW, mLsI, mLsL, mLsR, mLsV, mLfI, mLsW, mRsI, mRsL, mRsR, mRsV, mRfI, mRsW, mVsI, mVsL, mVsR, mVsV, mVfI, mVsW], ?_⟩
            by_cases x1 : j = p + 1
            · right; rw [x1]; exact c5
            · by_cases x2 : j = p
              · right; rw [x2]; exact c4
              · left
                rw [hσ2, hσ1, hτ]
                simp [mIsI, mIsL, mIsR, mIsV, mIfI, mIsW, mLsI, mLsL, mLsR, mLsV, mLfI, mLsW, mRsI, mRsL, mRsR, mRsV, mRfI, mRsW, mVsI, mVsL, mVsR, mVsV, mVfI, mVsW, x1, x2]
      · refine hno ?_ ((hmo σ (fun _ => rfl) (fun _ => rfl) (fun _ => rfl)).2 c)
        unfold kG_door
        rw [hcl.2 c]
        rfl
    · have hout : nI 16 ≤ nI (p + 1) := nle (by omega)
      refine hno ?_ ?_
      · unfold kG_door kH_join
        simp only [isPlace_in hp, Option.bind_some, show ¬ ((1 : Int32) = 0) by decide, if_false, nI_1, isPlace_out (Or.inr hout), if_true]
      · unfold kM_door
        simp only [mPlace_in hp, Option.bind_some, show ¬ ((1 : Int32) = 0) by decide, if_false, nI_1, mPlace_out (Or.inr hout), if_true]
theorem E_count {σ : Mem} {x1 : Int32} (hI : INV σ) : EQ2 (fun σ => kG_count σ x1) (fun σ => kM_count σ x1) σ := by
  obtain ⟨N, d, P, R, hI⟩ := hI
  have hH := hI.1
  have hB := hI.2.1
  have hT := hI.2.2.2.2.2.2.1
  have hN := hB.1
  have h8 := hT.1
  obtain ⟨d1, d2, d3, o, ho, eo1, eo2⟩ := hI.2.2.1
  have hno : ∀ r : Int32, kG_count σ x1 = some (r, σ) → kM_count σ x1 = some (r, sI σ 30 0 0 0) → EQ2 (fun σ => kG_count σ x1) (fun σ => kM_count σ x1) σ := fun r a b => ⟨r, σ, _, a, b, N, d, P, R, hI.thr⟩
  obtain ⟨s0, hs0⟩ : ∃ s0, s0 = sI σ 30 0 0 0 := ⟨_, rfl⟩
  have t31 : ∀ j, mI s0 31 0 j = mI σ 31 0 j := fun j => by rw [hs0]; rfl
  have t34 : ∀ j, mI s0 34 0 j = mI σ 34 0 j := fun j => by rw [hs0]; rfl
  have t40 : ∀ j, mI s0 40 0 j = mI σ 40 0 j := fun j => by rw [hs0]; rfl
  have t61 : ∀ j, mI s0 61 0 j = mI σ 61 0 j := fun j => by rw [hs0]; rfl
  have t20 : mI s0 30 0 20 = nI N := by rw [hs0]; exact hB.2.2.1
  have t32 : mI s0 30 0 32 = nI R := by rw [hs0]; exact hT.2.2.1
  have fin : ∀ {p : Nat → Bool} {i : Nat}, (if p i = true then nI (fb_ct p i) + 1 else nI (fb_ct p i)) = nI (fb_ct p (i + 1)) := fun {p i} => by
    rw [fb_ct_succ]
    by_cases c : p i = true
    · rw [if_pos c, if_pos c, nI_1]
    · rw [if_neg c, if_neg c]; rfl
  by_cases w0 : x1 = 0
  · refine hno (nI d) ?_ ?_
    · unfold kG_count; rw [if_pos w0, d2]
    · unfold kM_count; rw [if_pos w0]; rw [show mI (sI σ 30 0 0 0) 30 0 8 = nI d from d3]
  · by_cases w1 : x1 = 1
    · refine hno (nI (fb_ct (isRm σ) 16)) ?_ ?_
      · have hl : loopF FU kH_roomCount_s4 (0, 0, σ) = some (nI (fb_ct (isRm σ) 16), σ) := by
          refine lp_eq (fun i => (nI (fb_ct (isRm σ) i), nI i, σ)) _ 16 (by omega) (fun i hi => ?_) ?_
          · simp only [kH_roomCount_s4, show ¬ (16 : Int32) ≤ nI i from nge hi, if_false, inr_ hi, if_true, ix_ (show i < 2 ^ 31 by omega), (hH i hi).2.1]
            rw [← fin (p := isRm σ) (i := i)]
            by_cases c : isRm σ i = true
            · simp [c, nI_1]
            · simp [c, nI_1]
          · simp only [kH_roomCount_s4, show (16 : Int32) ≤ nI 16 from nle (Nat.le_refl 16), if_true]
        unfold kG_count kH_roomCount
        simp only [w0, if_false, w1, if_true, hl, Option.bind_some, kH_roomCount_x33]
        rfl
      · have hl : loopF FU kM_count_s63 (0, 0, s0) = some (nI (fb_ct (isRm σ) 16), s0) := by
          refine lp_eq (fun i => (nI (fb_ct (isRm σ) i), nI i, s0)) _ 16 (by omega) (fun i hi => ?_) ?_
          · simp only [kM_count_s63, show ¬ (16 : Int32) ≤ nI i from nge hi, if_false, mRoom_in hi, rm_eq t31, Option.bind_some]
            rw [← fin (p := isRm σ) (i := i)]
            by_cases c : isRm σ i = true
            · simp [c, nI_1]
            · simp [c, nI_1]
          · simp only [kM_count_s63, show (16 : Int32) ≤ nI 16 from nle (Nat.le_refl 16), if_true]
        unfold kM_count
        rw [← hs0]
        simp only [w0, if_false, w1, if_true, hl, Option.bind_some, kM_count_x86]
        rfl
    · by_cases w2 : x1 = 2
      · obtain ⟨f, hf⟩ : ∃ f : Nat → Bool, f = fun p => decide (mI σ 31 0 p = 4) := ⟨_, rfl⟩
        refine hno (nI (fb_ct f 16)) ?_ ?_
        · have hl : loopF FU kH_storeCount_s4 (0, 0, σ) = some (nI (fb_ct f 16), σ) := by
            refine lp_eq (fun i => (nI (fb_ct f i), nI i, σ)) _ 16 (by omega) (fun i hi => ?_) ?_
            · simp only [kH_storeCount_s4, show ¬ (16 : Int32) ≤ nI i from nge hi, if_false, inr_ hi, if_true, ix_ (show i < 2 ^ 31 by omega), (hH i hi).2.2.1]
              rw [← fin (p := f) (i := i), hf]
              by_cases c : mI σ 31 0 i = 4
              · simp [c, nI_1]
              · simp [c, nI_1]
            · simp only [kH_storeCount_s4, show (16 : Int32) ≤ nI 16 from nle (Nat.le_refl 16), if_true]
          unfold kG_count kH_storeCount
          simp only [w0, if_false, w1, w2, if_true, hl, Option.bind_some, kH_storeCount_x33]
          rfl
        · have hl : loopF FU kM_count_s90 (0, 0, s0) = some (nI (fb_ct f 16), s0) := by
            refine lp_eq (fun i => (nI (fb_ct f i), nI i, s0)) _ 16 (by omega) (fun i hi => ?_) ?_
            · simp only [kM_count_s90, show ¬ (16 : Int32) ≤ nI i from nge hi, if_false, inr_ hi, if_true, ix_ (show i < 2 ^ 31 by omega), t31]
              rw [← fin (p := f) (i := i), hf]
              by_cases c : mI σ 31 0 i = 4
              · simp [c, nI_1]
              · simp [c, nI_1]
            · simp only [kM_count_s90, show (16 : Int32) ≤ nI 16 from nle (Nat.le_refl 16), if_true]
          unfold kM_count
          rw [← hs0]
          simp only [w0, if_false, w1, w2, if_true, hl, Option.bind_some, kM_count_x115]
          rfl
      · by_cases w3 : x1 = 3
        · obtain ⟨f, hf⟩ : ∃ f : Nat → Bool, f = fun p => decide (¬ mI σ 34 0 p ≤ nI p) := ⟨_, rfl⟩
          refine hno (nI (fb_ct f 16)) ?_ ?_
          · have hl : loopF FU kH_doorCount_s4 (0, 0, σ) = some (nI (fb_ct f 16), σ) := by
              refine lp_eq (fun i => (nI (fb_ct f i), nI i, σ)) _ 16 (by omega) (fun i hi => ?_) ?_
              · simp only [kH_doorCount_s4, show ¬ (16 : Int32) ≤ nI i from nge hi, if_false, inr_ hi, if_true, ix_ (show i < 2 ^ 31 by omega), (hH i hi).2.1]
                rw [← fin (p := f) (i := i), hf]
                by_cases c : isRm σ i = true
                · simp only [c, if_true, Option.elim_some, ((hH i hi).2.2.2.2.2.2.1 c).2.2.2.1]
                  by_cases c2 : mI σ 34 0 i ≤ nI i
                  · simp [c2, nI_1]
                  · simp [c2, nI_1]
                · have h34 := ((hH i hi).2.2.2.2.2.1 (by simpa using c)).1
                  have c2 : mI σ 34 0 i ≤ nI i := by rw [h34]; exact Int32.le_of_lt (Int32.lt_of_lt_of_le (show (-1 : Int32) < 0 by decide) (nI_pos' (by omega)))
                  simp [c, c2, nI_1]
              · simp only [kH_doorCount_s4, show (16 : Int32) ≤ nI 16 from nle (Nat.le_refl 16), if_true]
            unfold kG_count kH_doorCount
            simp only [w0, if_false, w1, w2, w3, if_true, hl, Option.bind_some, kH_doorCount_x43]
            rfl
          · have hl : loopF FU kM_count_s119 (0, 0, s0) = some (nI (fb_ct f 16), s0) := by
              refine lp_eq (fun i => (nI (fb_ct f i), nI i, s0)) _ 16 (by omega) (fun i hi => ?_) ?_
              · simp only [kM_count_s119, show ¬ (16 : Int32) ≤ nI i from nge hi, if_false, inr_ hi, if_true, ix_ (show i < 2 ^ 31 by omega), t34]
                rw [← fin (p := f) (i := i), hf]
                by_cases c2 : mI σ 34 0 i ≤ nI i
                · simp [c2, nI_1]
                · simp [c2, nI_1]
              · simp only [kM_count_s119, show (16 : Int32) ≤ nI 16 from nle (Nat.le_refl 16), if_true]
            unfold kM_count
            rw [← hs0]
            simp only [w0, if_false, w1, w2, w3, if_true, hl, Option.bind_some, kM_count_x144]
            rfl
        · by_cases w4 : x1 = 4
          · refine hno (nI N) ?_ ?_
            · unfold kG_count; simp only [w0, if_false, w1, w2, w3, w4, if_true, hB.2.1]; rfl
            · unfold kM_count; rw [← hs0]; simp only [w0, if_false, w1, w2, w3, w4, if_true, t20]; rfl
          · by_cases w5 : x1 = 5
            · obtain ⟨f, hf⟩ : ∃ f : Nat → Bool, f = fun q => decide (mI σ 40 0 q ≤ 2) := ⟨_, rfl⟩
              refine hno (nI (fb_ct f N)) ?_ ?_
              · have hl : loopF FU kB_standingCount_s4 (0, 0, σ) = some (nI (fb_ct f N), σ) := by
                  refine lp_eq (fun i => (nI (fb_ct f i), nI i, σ)) _ N (by omega) (fun i hi => ?_) ?_
                  · simp only [kB_standingCount_s4, hB.2.1, nge hi (by omega), if_false, at_in hB hi, Option.bind_some, Option.elim_some, stands_in hB hi]
                    rw [← fin (p := f) (i := i), hf]
                    by_cases c : mI σ 40 0 i ≤ 2
                    · simp [c, nI_1]
                    · simp [c, nI_1]
                  · simp only [kB_standingCount_s4, hB.2.1, nle (Nat.le_refl N) (by omega), if_true]
                unfold kG_count kB_standingCount
                simp only [w0, if_false, w1, w2, w3, w4, w5, if_true, hl, Option.bind_some, kB_standingCount_x43]
                rfl
              · have hl : loopF FU kM_count_s153 (0, 0, s0) = some (nI (fb_ct f N), s0) := by
                  refine lp_eq (fun i => (nI (fb_ct f i), nI i, s0)) _ N (by omega) (fun i hi => ?_) ?_
                  · simp only [kM_count_s153, t20, nge hi (by omega), if_false, kM_stands, inr_ (show i < 40 by omega), if_true, ix_ (show i < 2 ^ 31 by omega), t40]
                    rw [← fin (p := f) (i := i), hf]
                    by_cases c : mI σ 40 0 i ≤ 2
                    · have c2 : ¬ 2 < mI σ 40 0 i := Int32.not_lt.mpr c
                      simp [c, c2, nI_1]
                    · have c2 : 2 < mI σ 40 0 i := Int32.not_le.mp c
                      simp [c, c2, nI_1]
                  · simp only [kM_count_s153, t20, nle (Nat.le_refl N) (by omega), if_true]
                unfold kM_count
                rw [← hs0]
                simp only [w0, if_false, w1, w2, w3, w4, w5, if_true, hl, Option.bind_some, kM_count_x178]
                rfl
            · by_cases w6 : x1 = 6
              · refine hno (nI o) ?_ ?_
                · unfold kG_count; simp only [w0, if_false, w1, w2, w3, w4, w5, w6, if_true, eo1]; rfl
                · unfold kM_count; rw [← hs0]; simp only [w0, if_false, w1, w2, w3, w4, w5, w6, if_true]; rw [hs0, show mI (sI σ 30 0 0 0) 30 0 9 = nI o from eo2]; rfl
              · by_cases w7 : x1 = 7
                · obtain ⟨f, hf⟩ : ∃ f : Nat → Bool, f = fun k => decide (¬ mI σ 61 0 k = 0) := ⟨_, rfl⟩
                  refine hno (nI (fb_ct f R)) ?_ ?_
                  · have hl : loopF FU kT_heldRules_s4 (0, 0, σ) = some (nI (fb_ct f R), σ) := by
                      refine lp_eq (fun i => (nI (fb_ct f i), nI i, σ)) _ R (by omega) (fun i hi => ?_) ?_
                      · obtain ⟨r0, f0, f1, f2, f3, -⟩ := hT.2.2.2.2.1 i hi
                        simp only [kT_heldRules_s4, hT.2.1, nge hi (by omega), if_false, show ¬ (8 : Int32) ≤ nI i from nge (show i < 8 by omega), inr_ (show i < 8 by omega), if_true, ix_ (show i < 2 ^ 31 by omega), r0, Option.elim_some, f3]
                        rw [← fin (p := f) (i := i), hf]
                        by_cases c : mI σ 61 0 i = 0
                        · simp [c, nI_1]
                        · simp [c, nI_1]
                      · simp only [kT_heldRules_s4, hT.2.1, nle (Nat.le_refl R) (by omega), if_true]
                    unfold kG_count kT_heldRules
                    simp only [w0, if_false, w1, w2, w3, w4, w5, w6, w7, if_true, hl, Option.bind_some, kT_heldRules_x50]
                    rfl
                  · have hl : loopF FU kM_count_s187 (0, 0, s0) = some (nI (fb_ct f R), s0) := by
                      refine lp_eq (fun i => (nI (fb_ct f i), nI i, s0)) _ R (by omega) (fun i hi => ?_) ?_
                      · simp only [kM_count_s187, t32, nge hi (by omega), if_false, inr_ (show i < 8 by omega), if_true, ix_ (show i < 2 ^ 31 by omega), t61]
                        rw [← fin (p := f) (i := i), hf]
                        by_cases c : mI σ 61 0 i = 0
                        · simp [c, nI_1]
                        · simp [c, nI_1]
                      · simp only [kM_count_s187, t32, nle (Nat.le_refl R) (by omega), if_true]
                    unfold kM_count
                    rw [← hs0]
                    simp only [w0, if_false, w1, w2, w3, w4, w5, w6, w7, if_true, hl, Option.bind_some, kM_count_x213]
                    rfl
                · refine hno (-1) ?_ ?_
                  · unfold kG_count; simp only [w0, if_false, w1, w2, w3, w4, w5, w6, w7]
                  · unfold kM_count; simp only [w0, if_false, w1, w2, w3, w4, w5, w6, w7]
