theorem E_open {σ : Mem} {x1 x2 : Int32} (hI : INV σ) : EQ2 (fun σ => kG_open σ x1 x2) (fun σ => kM_open σ x1 x2) σ := by
  obtain ⟨N, d, P, R, hI⟩ := hI
  have hH := hI.1
  have hno : ∀ r : Int32, kG_open σ x1 x2 = some (r, σ) → kM_open σ x1 x2 = some (r, sI σ 30 0 0 0) → EQ2 (fun σ => kG_open σ x1 x2) (fun σ => kM_open σ x1 x2) σ := fun r a b => ⟨r, σ, _, a, b, N, d, P, R, hI.thr⟩
  have hrm0 : ∀ p, isRm (sI σ 30 0 0 0) p = isRm σ p := fun p => rfl
  rcases i32 x1 16 with ho | ho | ⟨p, hp, rfl⟩
  · refine hno (-1) ?_ ?_
    · unfold kG_open; rw [roomAt_out (Or.inl ho)]; rfl
    · unfold kM_open; rw [mRoom_out (Or.inl ho)]; rfl
  · refine hno (-1) ?_ ?_
    · unfold kG_open; rw [roomAt_out (Or.inr ho)]; rfl
    · unfold kM_open; rw [mRoom_out (Or.inr ho)]; rfl
  · by_cases hr : isRm σ p = true
    · obtain ⟨f0, f1, f2, f3, f4, f5, f6, f7, ⟨o, ho, eo⟩, f9⟩ := (hH p hp).2.2.2.2.2.2.1 hr
      have hcl := (hH p hp).2.2.2.2.1
      have A1 : kH_roomAt σ (nI p) = some (some p, σ) := by rw [roomAt_in hH hp, if_pos hr]
      obtain ⟨d1, d2, d3, -⟩ := hI.2.2.1
      obtain ⟨p1, p2, p3, p4⟩ := hI.2.2.2.2.1
      have A3 := replan0 d2 p1 p2 p3
      obtain ⟨v, hv⟩ : ∃ v, v = if mI σ 37 0 p = 0 then o else 0 := ⟨_, rfl⟩
      have hv60 : v ≤ 60 := by rw [hv]; split <;> omega
      have e5 : mI σ 20 p 5 = nI v := by
        rw [hv]
        rcases hcl with c | c
        · rw [if_pos c, (f5 c).1, eo]
        · rw [if_neg (by rw [c]; decide), (f6 c).1]; rfl
      have e5' : mI (sI σ 1 0 7 (nI d)) 20 p 5 = nI v := by rw [mIsI, if_neg (by omega), e5]
      -- only planned has changed
      have hpl : INV' (sI (sI σ 1 0 7 (nI d)) 30 0 0 0) N d d R := by
        refine INV'.hs hI (fun t i k h1 h2 => ?_) (fun t i _ => rfl) (HI.fx ((Fx.rf.sI (l := []) (m := [(1, 7), (30, 0)])).sI) rfl hH) (fun q hq => ⟨hq, rfl, rfl, Or.inl rfl⟩) ?_ (by omega) (by omega) (fun n h1 h2 => by omega)
        · simp only [List.mem_cons, List.not_mem_nil, or_false, not_or, Prod.mk.injEq, not_and] at h2
          refine ⟨?_, rfl, rfl⟩
          rw [mIsI, if_neg (fun z => h2.2 z.1 z.2.2), mIsI, if_neg (fun z => h2.1 z.1 z.2.2)]
        · rw [mIsI, if_neg (by omega), mIsI, if_pos ⟨rfl, rfl, rfl⟩]
      have B2 : ∀ τ : Mem, (∀ j, mI τ 31 0 j = mI σ 31 0 j) → kM_isRoom (sI τ 30 0 0 0) (nI p) = some (1, sI τ 30 0 0 0) := fun τ h => by
        rw [mRoom_in hp, rm_eq (σ := σ) (fun j => by rw [mIsI, if_neg (by omega), h]), if_pos hr]
      by_cases hx0 : x2 < 0
      · refine ⟨-1, sI σ 1 0 7 (nI d), _, ?_, ?_, N, d, d, R, hpl⟩
        · show kG_open σ (nI p) x2 = _
          unfold kG_open
          simp only [A1, Option.bind_some, Option.elim_some, A3]
          unfold kR_lengthen
          rw [if_pos hx0]
          rfl
        · show kM_open (sI σ 1 0 7 (nI d)) (nI p) x2 = _
          unfold kM_open
          rw [B2 _ (fun j => by rw [mIsI, if_neg (by omega)])]
          simp only [Option.bind_some, show ¬ ((1 : Int32) = 0) by decide, if_false, hx0, if_true]
      · obtain ⟨m, hm, rfl⟩ := nI_of hx0
        by_cases hle : m ≤ 60 - v
        · have hle' : nI m ≤ 60 - nI v := by
            rw [show (60 : Int32) = nI 60 from rfl, pk_sub hv60]
            exact nle hle
          have hc : kG_open σ (nI p) (nI m) = some (nI (v + m), sI (sI (sI σ 1 0 7 (nI d)) 20 p 4 0) 20 p 5 (nI (v + m))) := by
            unfold kG_open
            simp only [A1, Option.bind_some, Option.elim_some, A3]
            unfold kR_lengthen
            have e6 : mI (sI (sI σ 1 0 7 (nI d)) 20 p 4 0) 20 p 5 = nI v := by rw [mIsI, if_neg (by omega), e5']
            rw [if_neg nn0, e5', if_pos hle', e6, nI_add, mIsI, if_pos ⟨rfl, rfl, rfl⟩]
            rfl
          obtain ⟨σ1, hσ1⟩ : ∃ σ1, σ1 = sI (sI (sI σ 1 0 7 (nI d)) 20 p 4 0) 20 p 5 (nI (v + m)) := ⟨_, rfl⟩
          rw [← hσ1] at hc
          have n31 : ∀ j, mI σ1 31 0 j = mI σ 31 0 j := fun j => by rw [hσ1, mIsI, if_neg (by omega), mIsI, if_neg (by omega), mIsI, if_neg (by omega)]
          have n37 : ∀ j, mI (sI σ1 30 0 0 0) 37 0 j = mI σ 37 0 j := fun j => by rw [hσ1, mIsI, if_neg (by omega), mIsI, if_neg (by omega), mIsI, if_neg (by omega), mIsI, if_neg (by omega)]
          have n35 : mI (sI σ1 30 0 0 0) 35 0 p = nI o := by rw [hσ1, mIsI, if_neg (by omega), mIsI, if_neg (by omega), mIsI, if_neg (by omega), mIsI, if_neg (by omega), eo]
          have hfin : ∀ σ2, (∀ t i k, t ∉ HT → (t, k) ∉ [(1, 7), (30, 0)] → mI σ2 t i k = mI σ t i k ∧ mL σ2 t i k = mL σ t i k ∧ mR σ2 t i k = mR σ t i k) → (∀ t i, mV σ2 t i = mV σ t i) → mI σ2 1 0 7 = nI d → (∀ j, mR σ2 3 0 j = mR σ 3 0 j) → (∀ t j, t = 4 ∨ t = 31 ∨ t = 32 ∨ t = 33 ∨ t = 34 → mI σ2 t 0 j = mI σ t 0 j) → (∀ j k, k < 4 → mI σ2 20 j k = mI σ 20 j k) → (∀ j, j ≠ p → mI σ2 20 j 4 = mI σ 20 j 4 ∧ mI σ2 20 j 5 = mI σ 20 j 5 ∧ mL σ2 20 j 6 = mL σ 20 j 6 ∧ mI σ2 35 0 j = mI σ 35 0 j ∧ mL σ2 36 0 j = mL σ 36 0 j ∧ mI σ2 37 0 j = mI σ 37 0 j) → mI σ2 37 0 p = 0 → mI σ2 20 p 4 = 0 → mI σ2 20 p 5 = nI (v + m) → mI σ2 35 0 p = nI (v + m) → mL σ2 20 p 6 = mL σ2 36 0 p → INV σ2 := by
            intro σ2 g1 g2 g3 g4 g5 g6 g7 g8 g9 g10 g11 g12
            refine ⟨N, d, d, R, INV'.hs hI g1 (fun t i _ => g2 t i) ?_ (HM_cal (fun j => g5 31 j (by simp)) (fun j => g5 33 j (by simp)) (fun j => g5 34 j (by simp))) g3 (by omega) (by omega) (fun n h1 h2 => by omega)⟩
            refine HI_cal hH hp hr g4 (fun j => g5 4 j (by simp)) (fun j => g2 20 j) (fun j => g5 31 j (by simp)) (fun j => g5 32 j (by simp)) (fun j => g5 33 j (by simp)) (fun j => g5 34 j (by simp)) g6 g7 (Or.inl g8) (by rw [g8, g9]) (fun _ => ⟨by rw [g10, g11], g12⟩) (fun z => ?_) ⟨v + m, by omega, g11⟩
            rw [g8] at z
            exact absurd z (by decide)
          rcases hcl with c | c
          · have hvo : v = o := by rw [hv, if_pos c]
            have hmo : kM_open σ1 (nI p) (nI m) = some (nI (v + m), sI (sI σ1 30 0 0 0) 35 0 p (nI (v + m))) := by
              unfold kM_open
              rw [B2 _ n31]
              simp only [Option.bind_some, show ¬ ((1 : Int32) = 0) by decide, if_false, nn0 hm, inr_ hp, if_true, ix_ (show p < 2 ^ 31 by omega), n37 p, c, n35]
              unfold kM_open_j39
              rw [← hvo, if_pos hle']
              simp only [inr_ hp, if_true, ix_ (show p < 2 ^ 31 by omega), n37 p, c]
              unfold kM_open_j75
              simp only [inr_ hp, if_true, ix_ (show p < 2 ^ 31 by omega), n35, ← hvo, nI_add]
              rw [mIsI, if_pos ⟨rfl, rfl, rfl⟩]
            refine ⟨_, σ1, _, hc, hmo, hfin _ (fun t i k h1 h2 => ?_) (fun t i => by rw [hσ1]; rfl) ?_ (fun j => by rw [hσ1]; rfl) (fun t j h => ?_) (fun j k hk => ?_) (fun j hj => ?_) ?_ ?_ ?_ ?_ ?_⟩
            · have h20 : t ≠ 20 := fun z => h1 (by rw [z]; decide)
              have h35 : t ≠ 35 := fun z => h1 (by rw [z]; decide)
              simp only [List.mem_cons, List.not_mem_nil, or_false, not_or, Prod.mk.injEq, not_and] at h2
              rw [hσ1]
              refine ⟨?_, rfl, rfl⟩
              rw [mIsI, if_neg (fun z => h35 z.1), mIsI, if_neg (fun z => h2.2 z.1 z.2.2), mIsI, if_neg (fun z => h20 z.1), mIsI, if_neg (fun z => h20 z.1), mIsI, if_neg (fun z => h2.1 z.1 z.2.2)]
            · rw [hσ1]; simp [mIsI, mIsL, mIsR, mIsV, mIfI, mIsW, mLsI, mLsL, mLsR, mLsV, mLfI, mLsW, mRsI, mRsL, mRsR, mRsV, mRfI, mRsW, mVsI, mVsL, mVsR, mVsV, mVfI, mVsW]
            · rw [hσ1]; rcases h with rfl | rfl | rfl | rfl | rfl <;> simp [mIsI, mIsL, mIsR, mIsV, mIfI, mIsW, mLsI, mLsL, mLsR, mLsV, mLfI, mLsW, mRsI, mRsL, mRsR, mRsV, mRfI, mRsW, mVsI, mVsL, mVsR, mVsV, mVfI, mVsW]
            · rw [hσ1]; simp [mIsI, mIsL, mIsR, mIsV, mIfI, mIsW, mLsI, mLsL, mLsR, mLsV, mLfI, mLsW, mRsI, mRsL, mRsR, mRsV, mRfI, mRsW, mVsI, mVsL, mVsR, mVsV, mVfI, mVsW, show ¬ k = 5 by omega, show ¬ k = 4 by omega]
            · rw [hσ1]; simp [mIsI, mIsL, mIsR, mIsV, mIfI, mIsW, mLsI, mLsL, mLsR, mLsV, mLfI, mLsW, mRsI, mRsL, mRsR, mRsV, mRfI, mRsW, mVsI, mVsL, mVsR, mVsV, mVfI, mVsW, hj]
            · rw [hσ1]; simp [mIsI, mIsL, mIsR, mIsV, mIfI, mIsW, mLsI, mLsL, mLsR, mLsV, mLfI, mLsW, mRsI, mRsL, mRsR, mRsV, mRfI, mRsW, mVsI, mVsL, mVsR, mVsV, mVfI, mVsW, c]
            · rw [hσ1]; simp [mIsI, mIsL, mIsR, mIsV, mIfI, mIsW, mLsI, mLsL, mLsR, mLsV, mLfI, mLsW, mRsI, mRsL, mRsR, mRsV, mRfI, mRsW, mVsI, mVsL, mVsR, mVsV, mVfI, mVsW]
            · rw [hσ1]; simp [mIsI, mIsL, mIsR, mIsV, mIfI, mIsW, mLsI, mLsL, mLsR, mLsV, mLfI, mLsW, mRsI, mRsL, mRsR, mRsV, mRfI, mRsW, mVsI, mVsL, mVsR, mVsV, mVfI, mVsW]
            · rw [hσ1]; simp [mIsI, mIsL, mIsR, mIsV, mIfI, mIsW, mLsI, mLsL, mLsR, mLsV, mLfI, mLsW, mRsI, mRsL, mRsR, mRsV, mRfI, mRsW, mVsI, mVsL, mVsR, mVsV, mVfI, mVsW]
            · rw [hσ1]; simp [mIsI, mIsL, mIsR, mIsV, mIfI, mIsW, mLsI, mLsL, mLsR, mLsV, mLfI, mLsW, mRsI, mRsL, mRsR, mRsV, mRfI, mRsW, mVsI, mVsL, mVsR, mVsV, mVfI, mVsW, (f5 c).2]
          · have hc0 : ¬ mI σ 37 0 p = 0 := by rw [c]; decide
            have hvo : v = 0 := by rw [hv, if_neg hc0]
            have hle2 : nI m ≤ 60 - 0 := by rw [hvo] at hle'; exact hle'
            have hmo : kM_open σ1 (nI p) (nI m) = some (nI (v + m), sI (sL (sI (sI (sI σ1 30 0 0 0) 37 0 p 0) 35 0 p 0) 36 0 p 0) 35 0 p (nI (v + m))) := by
              unfold kM_open
              rw [B2 _ n31]
              simp only [Option.bind_some, show ¬ ((1 : Int32) = 0) by decide, if_false, nn0 hm, inr_ hp, if_true, ix_ (show p < 2 ^ 31 by omega), n37 p, hc0]
              unfold kM_open_j39
              rw [if_pos hle2]
              simp only [inr_ hp, if_true, ix_ (show p < 2 ^ 31 by omega), n37 p, hc0, if_false]
              unfold kM_open_j75
              have z35 : mI (sL (sI (sI (sI σ1 30 0 0 0) 37 0 p 0) 35 0 p 0) 36 0 p 0) 35 0 p = nI 0 := by rw [mIsL, mIsI, if_pos ⟨rfl, rfl, rfl⟩]; rfl
              simp only [inr_ hp, if_true, ix_ (show p < 2 ^ 31 by omega), z35, nI_add, hvo, zn0]
              rw [mIsI, if_pos ⟨rfl, rfl, rfl⟩]
            refine ⟨_, σ1, _, hc, hmo, hfin _ (fun t i k h1 h2 => ?_) (fun t i => by rw [hσ1]; rfl) ?_ (fun j => by rw [hσ1]; rfl) (fun t j h => ?_) (fun j k hk => ?_) (fun j hj => ?_) ?_ ?_ ?_ ?_ ?_⟩
            · have h20 : t ≠ 20 := fun z => h1 (by rw [z]; decide)
              have h35 : t ≠ 35 := fun z => h1 (by rw [z]; decide)
              have h36 : t ≠ 36 := fun z => h1 (by rw [z]; decide)
              have h37 : t ≠ 37 := fun z => h1 (by rw [z]; decide)
              simp only [List.mem_cons, List.not_mem_nil, or_false, not_or, Prod.mk.injEq, not_and] at h2
              rw [hσ1]
              refine ⟨?_, ?_, rfl⟩
              · rw [mIsI, if_neg (fun z => h35 z.1), mIsL, mIsI, if_neg (fun z => h35 z.1), mIsI, if_neg (fun z => h37 z.1), mIsI, if_neg (fun z => h2.2 z.1 z.2.2), mIsI, if_neg (fun z => h20 z.1), mIsI, if_neg (fun z => h20 z.1), mIsI, if_neg (fun z => h2.1 z.1 z.2.2)]
              · rw [mLsI, mLsL, if_neg (fun z => h36 z.1)]; rfl
            · rw [hσ1]; simp [mIsI, mIsL, mIsR, mIsV, mIfI, mIsW, mLsI, mLsL, mLsR, mLsV, mLfI, mLsW, mRsI, mRsL, mRsR, mRsV, mRfI, mRsW, mVsI, mVsL, mVsR, mVsV, mVfI, mVsW]
            · rw [hσ1]; rcases h with rfl | rfl | rfl | rfl | rfl <;> simp [mIsI, mIsL, mIsR, mIsV, mIfI, mIsW, mLsI, mLsL, mLsR, mLsV, mLfI, mLsW, mRsI, mRsL, mRsR, mRsV, mRfI, mRsW, mVsI, mVsL, mVsR, mVsV, mVfI, mVsW]
            · rw [hσ1]; simp [mIsI, mIsL, mIsR, mIsV, mIfI, mIsW, mLsI, mLsL, mLsR, mLsV, mLfI, mLsW, mRsI, mRsL, mRsR, mRsV, mRfI, mRsW, mVsI, mVsL, mVsR, mVsV, mVfI, mVsW, show ¬ k = 5 by omega, show ¬ k = 4 by omega]
            · rw [hσ1]; simp [mIsI, mIsL, mIsR, mIsV, mIfI, mIsW, mLsI, mLsL, mLsR, mLsV, mLfI, mLsW, mRsI, mRsL, mRsR, mRsV, mRfI, mRsW, mVsI, mVsL, mVsR, mVsV, mVfI, mVsW, hj]
            · rw [hσ1]; simp [mIsI, mIsL, mIsR, mIsV, mIfI, mIsW, mLsI, mLsL, mLsR, mLsV, mLfI, mLsW, mRsI, mRsL, mRsR, mRsV, mRfI, mRsW, mVsI, mVsL, mVsR, mVsV, mVfI, mVsW]
            · rw [hσ1]; simp [mIsI, mIsL, mIsR, mIsV, mIfI, mIsW, mLsI, mLsL, mLsR, mLsV, mLfI, mLsW, mRsI, mRsL, mRsR, mRsV, mRfI, mRsW, mVsI, mVsL, mVsR, mVsV, mVfI, mVsW]
            · rw [hσ1]; simp [mIsI, mIsL, mIsR, mIsV, mIfI, mIsW, mLsI, mLsL, mLsR, mLsV, mLfI, mLsW, mRsI, mRsL, mRsR, mRsV, mRfI, mRsW, mVsI, mVsL, mVsR, mVsV, mVfI, mVsW]
            · rw [hσ1]; simp [mIsI, mIsL, mIsR, mIsV, mIfI, mIsW, mLsI, mLsL, mLsR, mLsV, mLfI, mLsW, mRsI, mRsL, mRsR, mRsV, mRfI, mRsW, mVsI, mVsL, mVsR, mVsV, mVfI, mVsW]
            · rw [hσ1]; simp [mIsI, mIsL, mIsR, mIsV, mIfI, mIsW, mLsI, mLsL, mLsR, mLsV, mLfI, mLsW, mRsI, mRsL, mRsR, mRsV, mRfI, mRsW, mVsI, mVsL, mVsR, mVsV, mVfI, mVsW, (f6 c).2]
        · have hle' : ¬ nI m ≤ 60 - nI v := by
            rw [show (60 : Int32) = nI 60 from rfl, pk_sub hv60]
            exact nge (by omega)
          refine ⟨-1, sI σ 1 0 7 (nI d), _, ?_, ?_, N, d, d, R, hpl⟩
          · show kG_open σ (nI p) (nI m) = _
            unfold kG_open
            simp only [A1, Option.bind_some, Option.elim_some, A3]
            unfold kR_lengthen
            rw [if_neg nn0, e5', if_neg hle']
            rfl
          · show kM_open (sI σ 1 0 7 (nI d)) (nI p) (nI m) = _
            unfold kM_open
            rw [B2 _ (fun j => by rw [mIsI, if_neg (by omega)])]
            have n37 : mI (sI (sI σ 1 0 7 (nI d)) 30 0 0 0) 37 0 p = mI σ 37 0 p := by rw [mIsI, if_neg (by omega), mIsI, if_neg (by omega)]
            have n35 : mI (sI (sI σ 1 0 7 (nI d)) 30 0 0 0) 35 0 p = nI o := by rw [mIsI, if_neg (by omega), mIsI, if_neg (by omega), eo]
            simp only [Option.bind_some, show ¬ ((1 : Int32) = 0) by decide, if_false, nn0 hm, inr_ hp, if_true, ix_ (show p < 2 ^ 31 by omega), n37, n35]
            rcases hcl with c | c
            · have hvo : v = o := by rw [hv, if_pos c]
              rw [if_pos c]
              unfold kM_open_j39
              rw [← hvo, if_neg hle']
            · have hc0 : ¬ mI σ 37 0 p = 0 := by rw [c]; decide
              have hvo : v = 0 := by rw [hv, if_neg hc0]
              rw [if_neg hc0]
              unfold kM_open_j39
              rw [if_neg (by rw [hvo] at hle'; exact hle')]
    · refine hno (-1) ?_ ?_
      · unfold kG_open; rw [roomAt_in hH hp, if_neg hr]; rfl
      · unfold kM_open; rw [mRoom_in hp, hrm0, if_neg hr]; rfl
theorem E_close {σ : Mem} {x1 : Int32} (hI : INV σ) : EQ2 (fun σ => kG_close σ x1) (fun σ => kM_close σ x1) σ := by
  obtain ⟨N, d, P, R, hI⟩ := hI
  have hH := hI.1
  have hno : ∀ r : Int32, kG_close σ x1 = some (r, σ) → kM_close σ x1 = some (r, sI σ 30 0 0 0) → EQ2 (fun σ => kG_close σ x1) (fun σ => kM_close σ x1) σ := fun r a b => ⟨r, σ, _, a, b, N, d, P, R, hI.thr⟩
  have hrm0 : ∀ p, isRm (sI σ 30 0 0 0) p = isRm σ p := fun p => rfl
  rcases i32 x1 16 with ho | ho | ⟨p, hp, rfl⟩
  · refine hno 0 ?_ ?_
    · unfold kG_close; rw [roomAt_out (Or.inl ho)]; rfl
    · unfold kM_close; rw [mRoom_out (Or.inl ho)]; rfl
  · refine hno 0 ?_ ?_
    · unfold kG_close; rw [roomAt_out (Or.inr ho)]; rfl
    · unfold kM_close; rw [mRoom_out (Or.inr ho)]; rfl
  · by_cases hr : isRm σ p = true
    · obtain ⟨f0, f1, f2, f3, f4, f5, f6, f7, f8, f9⟩ := (hH p hp).2.2.2.2.2.2.1 hr
      have A1 : kH_roomAt σ (nI p) = some (some p, σ) := by rw [roomAt_in hH hp, if_pos hr]
      by_cases hc : mI σ 37 0 p = 0
      · obtain ⟨d1, d2, d3, -⟩ := hI.2.2.1
        obtain ⟨p1, p2, p3, p4⟩ := hI.2.2.2.2.1
        obtain ⟨τ, hτ⟩ : ∃ τ, τ = sL (sI (sI σ 20 p 4 1) 20 p 5 0) 20 p 6 0 := ⟨_, rfl⟩
        have A3 : kG_replanFrom τ 0 = some ((), sI τ 1 0 7 (nI d)) := replan0 (P := P) (by rw [hτ]; simp [mIsI, mIsL, mIsR, mIsV, mIfI, mIsW, mLsI, mLsL, mLsR, mLsV, mLfI, mLsW, mRsI, mRsL, mRsR, mRsV, mRfI, mRsW, mVsI, mVsL, mVsR, mVsV, mVfI, mVsW]; exact d2) (by rw [hτ]; simp [mIsI, mIsL, mIsR, mIsV, mIfI, mIsW, mLsI, mLsL, mLsR, mLsV, mLfI, mLsW, mRsI, mRsL, mRsR, mRsV, mRfI, mRsW, mVsI, mVsL, mVsR, mVsV, mVfI, mVsW]; exact p1) p2 p3
        obtain ⟨σ1, hσ1⟩ : ∃ σ1, σ1 = sI τ 1 0 7 (nI d) := ⟨_, rfl⟩
        have B2 : kM_isRoom (sI σ1 30 0 0 0) (nI p) = some (1, sI σ1 30 0 0 0) := by
          rw [mRoom_in hp, rm_eq (σ := σ) (fun j => by rw [hσ1, hτ]; simp [mIsI, mIsL, mIsR, mIsV, mIfI, mIsW, mLsI, mLsL, mLsR, mLsV, mLfI, mLsW, mRsI, mRsL, mRsR, mRsV, mRfI, mRsW, mVsI, mVsL, mVsR, mVsV, mVfI, mVsW]), if_pos hr]
        have b37 : mI (sI σ1 30 0 0 0) 37 0 p = 0 := by rw [hσ1, hτ]; simp [mIsI, mIsL, mIsR, mIsV, mIfI, mIsW, mLsI, mLsL, mLsR, mLsV, mLfI, mLsW, mRsI, mRsL, mRsR, mRsV, mRfI, mRsW, mVsI, mVsL, mVsR, mVsV, mVfI, mVsW]; exact hc
        refine ⟨1, σ1, sI (sI σ1 30 0 0 0) 37 0 p 1, ?_, ?_, N, d, d, R, ?_⟩
        · show kG_close σ (nI p) = _
          unfold kG_close kR_closeAltogether
          simp only [A1, Option.bind_some, Option.elim_some, f4, hc, if_true, ← hτ, A3, ← hσ1]
        · show kM_close σ1 (nI p) = _
          unfold kM_close
          simp only [B2, Option.bind_some, show ¬ ((1 : Int32) = 0) by decide, if_false, inr_ hp, if_true, ix_ (show p < 2 ^ 31 by omega), b37, zn1]
        · refine INV'.hs hI (fun t i k h1 h2 => ?_) (fun t i _ => by rw [hσ1, hτ]; rfl) ?_ (HM_cal (fun j => by rw [hσ1, hτ]; simp [mIsI, mIsL, mIsR, mIsV, mIfI, mIsW, mLsI, mLsL, mLsR, mLsV, mLfI, mLsW, mRsI, mRsL, mRsR, mRsV, mRfI, mRsW, mVsI, mVsL, mVsR, mVsV, mVfI, mVsW]) (fun j => by rw [hσ1, hτ]; simp [mIsI, mIsL, mIsR, mIsV, mIfI, mIsW, mLsI, mLsL, mLsR, mLsV, mLfI, mLsW, mRsI, mRsL, mRsR, mRsV, mRfI, mRsW, mVsI, mVsL, mVsR, mVsV, mVfI, mVsW]) (fun j => by rw [hσ1, hτ]; simp [mIsI, mIsL, mIsR, mIsV, mIfI, mIsW, mLsI, mLsL, mLsR, mLsV, mLfI, mLsW, mRsI, mRsL, mRsR, mRsV, mRfI, mRsW, mVsI, mVsL, mVsR, mVsV, mVfI, mVsW])) (by rw [hσ1, hτ]; simp [mIsI, mIsL, mIsR, mIsV, mIfI, mIsW, mLsI, mLsL, mLsR, mLsV, mLfI, mLsW, mRsI, mRsL, mRsR, mRsV, mRfI, mRsW, mVsI, mVsL, mVsR, mVsV, mVfI, mVsW]) (by omega) (by omega) (fun n h1 h2 => by omega)
          · have h20 : t ≠ 20 := fun z => h1 (by rw [z]; decide)
            have h37 : t ≠ 37 := fun z => h1 (by rw [z]; decide)
            simp only [List.mem_cons, List.not_mem_nil, or_false, not_or, Prod.mk.injEq, not_and] at h2
            rw [hσ1, hτ]
            refine ⟨?_, ?_, rfl⟩
            · rw [mIsI, if_neg (fun z => h37 z.1), mIsI, if_neg (fun z => h2.2 z.1 z.2.2), mIsI, if_neg (fun z => h2.1 z.1 z.2.2), mIsL, mIsI, if_neg (fun z => h20 z.1), mIsI, if_neg (fun z => h20 z.1)]
            · rw [mLsI, mLsI, mLsI, mLsL, if_neg (fun z => h20 z.1)]; rfl
          · obtain ⟨o, ho, eo⟩ := f8
            refine HI_cal hH hp hr (fun j => by rw [hσ1, hτ]; rfl) (fun j => by rw [hσ1, hτ]; simp [mIsI, mIsL, mIsR, mIsV, mIfI, mIsW, mLsI, mLsL, mLsR, mLsV, mLfI, mLsW, mRsI, mRsL, mRsR, mRsV, mRfI, mRsW, mVsI, mVsL, mVsR, mVsV, mVfI, mVsW]) (fun j => by rw [hσ1, hτ]; rfl) (fun j => by rw [hσ1, hτ]; simp [mIsI, mIsL, mIsR, mIsV, mIfI, mIsW, mLsI, mLsL, mLsR, mLsV, mLfI, mLsW, mRsI, mRsL, mRsR, mRsV, mRfI, mRsW, mVsI, mVsL, mVsR, mVsV, mVfI, mVsW]) (fun j => by rw [hσ1, hτ]; simp [mIsI, mIsL, mIsR, mIsV, mIfI, mIsW, mLsI, mLsL, mLsR, mLsV, mLfI, mLsW, mRsI, mRsL, mRsR, mRsV, mRfI, mRsW, mVsI, mVsL, mVsR, mVsV, mVfI, mVsW]) (fun j => by rw [hσ1, hτ]; simp [mIsI, mIsL, mIsR, mIsV, mIfI, mIsW, mLsI, mLsL, mLsR, mLsV, mLfI, mLsW, mRsI, mRsL, mRsR, mRsV, mRfI, mRsW, mVsI, mVsL, mVsR, mVsV, mVfI, mVsW]) (fun j => by rw [hσ1, hτ]; simp [mIsI, mIsL, mIsR, mIsV, mIfI, mIsW, mLsI, mLsL, mLsR, mLsV, mLfI, mLsW, mRsI, mRsL, mRsR, mRsV, mRfI, mRsW, mVsI, mVsL, mVsR, mVsV, mVfI, mVsW]) (fun j k hk => by rw [hσ1, hτ]; simp [mIsI, mIsL, mIsR, mIsV, mIfI, mIsW, mLsI, mLsL, mLsR, mLsV, mLfI, mLsW, mRsI, mRsL, mRsR, mRsV, mRfI, mRsW, mVsI, mVsL, mVsR, mVsV, mVfI, mVsW, show ¬ k = 5 by omega, show ¬ k = 4 by omega]) (fun j hj => by rw [hσ1, hτ]; simp [mIsI, mIsL, mIsR, mIsV, mIfI, mIsW, mLsI, mLsL, mLsR, mLsV, mLfI, mLsW, mRsI, mRsL, mRsR, mRsV, mRfI, mRsW, mVsI, mVsL, mVsR, mVsV, mVfI, mVsW, hj]) (by rw [hσ1, hτ]; simp [mIsI, mIsL, mIsR, mIsV, mIfI, mIsW, mLsI, mLsL, mLsR, mLsV, mLfI, mLsW, mRsI, mRsL, mRsR, mRsV, mRfI, mRsW, mVsI, mVsL, mVsR, mVsV, mVfI, mVsW]) (by rw [hσ1, hτ]; simp [mIsI, mIsL, mIsR, mIsV, mIfI, mIsW, mLsI, mLsL, mLsR, mLsV, mLfI, mLsW, mRsI, mRsL, mRsR, mRsV, mRfI, mRsW, mVsI, mVsL, mVsR, mVsV, mVfI, mVsW]) (fun z => ?_) (fun _ => by rw [hσ1, hτ]; simp [mIsI, mIsL, mIsR, mIsV, mIfI, mIsW, mLsI, mLsL, mLsR, mLsV, mLfI, mLsW, mRsI, mRsL, mRsR, mRsV, mRfI, mRsW, mVsI, mVsL, mVsR, mVsV, mVfI, mVsW]) ⟨o, ho, by rw [hσ1, hτ]; simp [mIsI, mIsL, mIsR, mIsV, mIfI, mIsW, mLsI, mLsL, mLsR, mLsV, mLfI, mLsW, mRsI, mRsL, mRsR, mRsV, mRfI, mRsW, mVsI, mVsL, mVsR, mVsV, mVfI, mVsW]; exact eo⟩
            rw [mIsI, if_pos ⟨rfl, rfl, rfl⟩] at z
            exact absurd z (by decide)
      · have hc0 : ¬ mI (sI σ 30 0 0 0) 37 0 p = 0 := hc
        refine hno 0 ?_ ?_
        · unfold kG_close
          simp only [A1, Option.bind_some, Option.elim_some, f4, hc, if_false]
        · unfold kM_close
          rw [mRoom_in hp, hrm0, if_pos hr]
          simp only [Option.bind_some, show ¬ ((1 : Int32) = 0) by decide, if_false, inr_ hp, if_true, ix_ (show p < 2 ^ 31 by omega), hc0]
    · refine hno 0 ?_ ?_
      · unfold kG_close; rw [roomAt_in hH hp, if_neg hr]; rfl
      · unfold kM_close; rw [mRoom_in hp, hrm0, if_neg hr]; rfl
