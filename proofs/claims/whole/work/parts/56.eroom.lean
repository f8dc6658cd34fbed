theorem isEmpty_in {σ : Mem} {p : Nat} (hI : HI σ) (hp : p < 16) : kH_isEmpty σ (nI p) = some (if mI σ 31 0 p = -1 then 1 else 0, σ) := by
  unfold kH_isEmpty
  rw [isPlace_in hp]
  obtain ⟨h0, h1, h2, -⟩ := hI p hp
  simp only [Option.bind_some, show ¬ ((1 : Int32) = 0) by decide, if_false, inr_ hp, if_true, ix_ (show p < 2 ^ 31 by omega), h1, h2]
  by_cases hr : isRm σ p = true
  · rw [if_pos hr]
    have : ¬ mI σ 31 0 p = -1 := fun z => by
      rcases kd_of hI hr with e | e | e | e <;> rw [e] at z <;> exact absurd z (by decide)
    rw [if_neg this]
    rfl
  · rw [if_neg hr]
    rcases no_rm hI hp (by simpa using hr) with e | e
    · rw [e]; rfl
    · rw [e]; rfl
theorem isEmpty_out {σ : Mem} {x : Int32} (h : x < 0 ∨ nI 16 ≤ x) : kH_isEmpty σ x = some (0, σ) := by
  unfold kH_isEmpty
  rw [isPlace_out h]
  rfl
theorem E_store {σ : Mem} {x1 : Int32} (hI : INV σ) : EQ2 (fun σ => kG_store σ x1) (fun σ => kM_store σ x1) σ := by
  obtain ⟨N, d, P, R, hI⟩ := hI
  have hH := hI.1
  have hno : ∀ r : Int32, kG_store σ x1 = some (r, σ) → kM_store σ x1 = some (r, sI σ 30 0 0 0) → EQ2 (fun σ => kG_store σ x1) (fun σ => kM_store σ x1) σ := fun r a b => ⟨r, σ, _, a, b, N, d, P, R, hI.thr⟩
  rcases i32 x1 16 with ho | ho | ⟨p, hp, rfl⟩
  · refine hno 0 ?_ ?_
    · unfold kG_store; rw [isEmpty_out (Or.inl ho)]; rfl
    · unfold kM_store; rw [mPlace_out (Or.inl ho)]; rfl
  · refine hno 0 ?_ ?_
    · unfold kG_store; rw [isEmpty_out (Or.inr ho)]; rfl
    · unfold kM_store; rw [mPlace_out (Or.inr ho)]; rfl
  · by_cases hk : mI σ 31 0 p = -1
    · have hrp : isRm σ p = false := by
        cases e : isRm σ p with
        | false => rfl
        | true => rcases kd_of hH e with k | k | k | k <;> rw [k] at hk <;> exact absurd hk (by decide)
      obtain ⟨σ2, hσ2⟩ : ∃ σ2, σ2 = sI (sI (sI σ 4 0 p 1) 30 0 0 0) 31 0 p 4 := ⟨_, rfl⟩
      have n31 : mI (sI (sI σ 4 0 p 1) 30 0 0 0) 31 0 p = -1 := by rw [mIsI, if_neg (by omega), mIsI, if_neg (by omega)]; exact hk
      have hrm : ∀ j, isRm σ2 j = isRm σ j := fun j => by
        by_cases e : j = p
        · rw [e, hrp]
          unfold isRm
          rw [hσ2, mIsI, if_pos ⟨rfl, rfl, rfl⟩]
          simp
        · unfold isRm
          rw [hσ2, mIsI, if_neg (fun z => e z.2.2), mIsI, if_neg (by omega), mIsI, if_neg (by omega)]
      have m31 : ∀ j, j ≠ p → mI σ2 31 0 j = mI σ 31 0 j := fun j e => by rw [hσ2, mIsI, if_neg (fun z => e z.2.2), mIsI, if_neg (by omega), mIsI, if_neg (by omega)]
      refine ⟨1, sI σ 4 0 p 1, σ2, ?_, ?_, N, d, P, R, ?_⟩
      · show kG_store σ (nI p) = _
        unfold kG_store kH_putStore
        simp only [isEmpty_in hH hp, hk, if_true, Option.bind_some, show ¬ ((1 : Int32) = 0) by decide, if_false, isPlace_in hp, inr_ hp, ix_ (show p < 2 ^ 31 by omega), zn1]
      · show kM_store (sI σ 4 0 p 1) (nI p) = _
        unfold kM_store
        simp only [mPlace_in hp, Option.bind_some, show ¬ ((1 : Int32) = 0) by decide, if_false, inr_ hp, if_true, ix_ (show p < 2 ^ 31 by omega), n31, hσ2]
      · have hopn : ∀ j n, opn σ2 j n = opn σ j n := fun j n => by
          unfold opn
          rw [hrm, show mI σ2 37 0 j = mI σ 37 0 j by rw [hσ2]; simp [mIsI, mIsL, mIsR, mIsV, mIfI, mIsW, mLsI, mLsL, mLsR, mLsV, mLfI, mLsW, mRsI, mRsL, mRsR, mRsV, mRfI, mRsW, mVsI, mVsL, mVsR, mVsV, mVfI, mVsW], show mI σ2 35 0 j = mI σ 35 0 j by rw [hσ2]; simp [mIsI, mIsL, mIsR, mIsV, mIfI, mIsW, mLsI, mLsL, mLsR, mLsV, mLfI, mLsW, mRsI, mRsL, mRsR, mRsV, mRfI, mRsW, mVsI, mVsL, mVsR, mVsV, mVfI, mVsW], show mL σ2 36 0 j = mL σ 36 0 j by rw [hσ2]; simp [mIsI, mIsL, mIsR, mIsV, mIfI, mIsW, mLsI, mLsL, mLsR, mLsV, mLfI, mLsW, mRsI, mRsL, mRsR, mRsV, mRfI, mRsW, mVsI, mVsL, mVsR, mVsV, mVfI, mVsW]]
        refine INV'.hs hI (fun t i k h1 h2 => ?_) (fun t i _ => by rw [hσ2]; rfl) ?_ (fun j hj => ?_) ?_ hI.2.2.2.2.1.2.1 (Nat.le_refl _) (fun n h1 h2 => ?_)
        · have h4 : t ≠ 4 := fun z => h1 (by rw [z]; decide)
          have h31 : t ≠ 31 := fun z => h1 (by rw [z]; decide)
          simp only [List.mem_cons, List.not_mem_nil, or_false, not_or, Prod.mk.injEq, not_and] at h2
          rw [hσ2]
          refine ⟨?_, rfl, rfl⟩
          rw [mIsI, if_neg (fun z => h31 z.1), mIsI, if_neg (fun z => h2.2 z.1 z.2.2), mIsI, if_neg (fun z => h4 z.1)]
        · intro j hj
          obtain ⟨a1, a2, a3, a4, a5, a6, a7, a8⟩ := hH j hj
          unfold HIp
          rw [hrm]
          by_cases e : j = p
          · subst e
            obtain ⟨b1, b2, b3⟩ := a6 hrp
            refine ⟨by rw [hσ2]; simp [mIsI, mIsL, mIsR, mIsV, mIfI, mIsW, mLsI, mLsL, mLsR, mLsV, mLfI, mLsW, mRsI, mRsL, mRsR, mRsV, mRfI, mRsW, mVsI, mVsL, mVsR, mVsV, mVfI, mVsW], by rw [hσ2]; exact a2, by rw [hσ2]; simp [mIsI, mIsL, mIsR, mIsV, mIfI, mIsW, mLsI, mLsL, mLsR, mLsV, mLfI, mLsW, mRsI, mRsL, mRsR, mRsV, mRfI, mRsW, mVsI, mVsL, mVsR, mVsV, mVfI, mVsW], by rw [hσ2]; exact a4, by rw [hσ2]; simp [mIsI, mIsL, mIsR, mIsV, mIfI, mIsW, mLsI, mLsL, mLsR, mLsV, mLfI, mLsW, mRsI, mRsL, mRsR, mRsV, mRfI, mRsW, mVsI, mVsL, mVsR, mVsV, mVfI, mVsW]; exact a5, fun _ => by rw [hσ2]; simp [mIsI, mIsL, mIsR, mIsV, mIfI, mIsW, mLsI, mLsL, mLsR, mLsV, mLfI, mLsW, mRsI, mRsL, mRsR, mRsV, mRfI, mRsW, mVsI, mVsL, mVsR, mVsV, mVfI, mVsW]; exact ⟨b1, b2, b3⟩, (fun h => by rw [hrp] at h; cases h), ?_⟩
            left
            rw [hσ2]
            simp [mIsI, mIsL, mIsR, mIsV, mIfI, mIsW, mLsI, mLsL, mLsR, mLsV, mLfI, mLsW, mRsI, mRsL, mRsR, mRsV, mRfI, mRsW, mVsI, mVsL, mVsR, mVsV, mVfI, mVsW]
            exact b1
          · refine ⟨by rw [m31 j e]; exact a1, by rw [hσ2]; exact a2, by rw [m31 j e, hσ2]; simp [mIsI, mIsL, mIsR, mIsV, mIfI, mIsW, mLsI, mLsL, mLsR, mLsV, mLfI, mLsW, mRsI, mRsL, mRsR, mRsV, mRfI, mRsW, mVsI, mVsL, mVsR, mVsV, mVfI, mVsW, e]; exact a3, by rw [hσ2]; exact a4, by rw [hσ2]; simp [mIsI, mIsL, mIsR, mIsV, mIfI, mIsW, mLsI, mLsL, mLsR, mLsV, mLfI, mLsW, mRsI, mRsL, mRsR, mRsV, mRfI, mRsW, mVsI, mVsL, mVsR, mVsV, mVfI, mVsW]; exact a5, fun h => by rw [hσ2]; simp [mIsI, mIsL, mIsR, mIsV, mIfI, mIsW, mLsI, mLsL, mLsR, mLsV, mLfI, mLsW, mRsI, mRsL, mRsR, mRsV, mRfI, mRsW, mVsI, mVsL, mVsR, mVsV, mVfI, mVsW]; exact a6 h, fun h => ?_, ?_⟩
            · rw [m31 j e, hσ2]
              simp only [mIsI, mIsL, mIsR, mIsV, mIfI, mIsW, mLsI, mLsL, mLsR, mLsV, mLfI, mLsW, mRsI, mRsL, mRsR, mRsV, mRfI, mRsW, mVsI, mVsL, mVsR, mVsV, mVfI, mVsW, show ¬ (20 = 31) by omega, show ¬ (20 = 30) by omega, show ¬ (20 = 4) by omega, show ¬ (32 = 31) by omega, show ¬ (32 = 30) by omega, show ¬ (32 = 4) by omega, show ¬ (33 = 31) by omega, show ¬ (33 = 30) by omega, show ¬ (33 = 4) by omega, show ¬ (34 = 31) by omega, show ¬ (34 = 30) by omega, show ¬ (34 = 4) by omega, show ¬ (35 = 31) by omega, show ¬ (35 = 30) by omega, show ¬ (35 = 4) by omega, show ¬ (37 = 31) by omega, show ¬ (37 = 30) by omega, show ¬ (37 = 4) by omega, false_and, if_false]
              exact a7 h
            · have w34 : ∀ i, mI σ2 34 0 i = mI σ 34 0 i := fun i => by rw [hσ2]; simp [mIsI, mIsL, mIsR, mIsV, mIfI, mIsW, mLsI, mLsL, mLsR, mLsV, mLfI, mLsW, mRsI, mRsL, mRsR, mRsV, mRfI, mRsW, mVsI, mVsL, mVsR, mVsV, mVfI, mVsW]
              rw [w34, w34, w34, m31 j e]
              rcases a8 with c | ⟨c1, c2, c3, c4, c5⟩ | ⟨c1, c2, c3, c4, c5⟩
              · exact Or.inl c
              · have : j + 1 ≠ p := fun z => by rw [z, hk] at c5; exact absurd c5 (by decide)
                exact Or.inr (Or.inl ⟨c1, c2, c3, c4, by rw [m31 _ this]; exact c5⟩)
              · have : j - 1 ≠ p := fun z => by rw [z, hk] at c5; exact absurd c5 (by decide)
                exact Or.inr (Or.inr ⟨c1, c2, c3, c4, by rw [m31 _ this]; exact c5⟩)
        · have : j ≠ p := fun z => by rw [z, hrp] at hj; cases hj
          exact ⟨by rw [hrm]; exact hj, m31 j this, by rw [hσ2]; simp [mIsI, mIsL, mIsR, mIsV, mIfI, mIsW, mLsI, mLsL, mLsR, mLsV, mLfI, mLsW, mRsI, mRsL, mRsR, mRsV, mRfI, mRsW, mVsI, mVsL, mVsR, mVsV, mVfI, mVsW], Or.inl (by rw [hσ2]; simp [mIsI, mIsL, mIsR, mIsV, mIfI, mIsW, mLsI, mLsL, mLsR, mLsV, mLfI, mLsW, mRsI, mRsL, mRsR, mRsV, mRfI, mRsW, mVsI, mVsL, mVsR, mVsV, mVfI, mVsW])⟩
        · rw [hσ2]; simp [mIsI, mIsL, mIsR, mIsV, mIfI, mIsW, mLsI, mLsL, mLsR, mLsV, mLfI, mLsW, mRsI, mRsL, mRsR, mRsV, mRfI, mRsW, mVsI, mVsL, mVsR, mVsV, mVfI, mVsW]; exact hI.2.2.2.2.1.1
        · unfold hvN
          rw [show (fun j => opn σ2 j n) = (fun j => opn σ j n) from funext fun j => hopn j n]
          unfold hvW
          refine Prod.ext rfl (Prod.ext (funext fun j => ?_) (Prod.ext (funext fun j => ?_) (funext fun j => ?_)))
          · show (if opn σ j n = true then ix (mI σ2 31 0 j) else 0) = (if opn σ j n = true then ix (mI σ 31 0 j) else 0)
            by_cases e : j = p
            · have : ¬ opn σ j n = true := fun z => by rw [e] at z; have := opn_rm z; rw [hrp] at this; cases this
              rw [if_neg this, if_neg this]
            · rw [m31 j e]
          · show (if opn σ j n = true then (if mI σ2 31 0 j = 3 then ix (mI σ2 33 0 j) else 1) else 0) = (if opn σ j n = true then (if mI σ 31 0 j = 3 then ix (mI σ 33 0 j) else 1) else 0)
            by_cases e : j = p
            · have : ¬ opn σ j n = true := fun z => by rw [e] at z; have := opn_rm z; rw [hrp] at this; cases this
              rw [if_neg this, if_neg this]
            · rw [m31 j e, show mI σ2 33 0 j = mI σ 33 0 j by rw [hσ2]; simp [mIsI, mIsL, mIsR, mIsV, mIfI, mIsW, mLsI, mLsL, mLsR, mLsV, mLfI, mLsW, mRsI, mRsL, mRsR, mRsV, mRfI, mRsW, mVsI, mVsL, mVsR, mVsV, mVfI, mVsW]]
          · show (if opn σ j n = true then (if mI σ2 34 0 j = -1 then 99 else ix (mI σ2 34 0 j)) else 0) = (if opn σ j n = true then (if mI σ 34 0 j = -1 then 99 else ix (mI σ 34 0 j)) else 0)
            rw [show mI σ2 34 0 j = mI σ 34 0 j by rw [hσ2]; simp [mIsI, mIsL, mIsR, mIsV, mIfI, mIsW, mLsI, mLsL, mLsR, mLsV, mLfI, mLsW, mRsI, mRsL, mRsR, mRsV, mRfI, mRsW, mVsI, mVsL, mVsR, mVsV, mVfI, mVsW]]
    · refine hno 0 ?_ ?_
      · unfold kG_store; rw [isEmpty_in hH hp, if_neg hk]; rfl
      · unfold kM_store
        have hk0 : ¬ mI (sI σ 30 0 0 0) 31 0 p = -1 := hk
        simp only [mPlace_in hp, Option.bind_some, show ¬ ((1 : Int32) = 0) by decide, if_false, inr_ hp, if_true, ix_ (show p < 2 ^ 31 by omega), hk0]
theorem E_look {σ : Mem} {x1 x2 : Int32} (hI : INV σ) : EQ2 (fun σ => kG_look σ x1 x2) (fun σ => kM_look σ x1 x2) σ := by
  obtain ⟨N, d, P, R, hI⟩ := hI
  have hH := hI.1
  have hno : ∀ r : Int32, kG_look σ x1 x2 = some (r, σ) → kM_look σ x1 x2 = some (r, sI σ 30 0 0 0) → EQ2 (fun σ => kG_look σ x1 x2) (fun σ => kM_look σ x1 x2) σ := fun r a b => ⟨r, σ, _, a, b, N, d, P, R, hI.thr⟩
  have hrm0 : ∀ p, isRm (sI σ 30 0 0 0) p = isRm σ p := fun p => rfl
  rcases i32 x1 16 with ho | ho | ⟨p, hp, rfl⟩
  · refine hno (-2) ?_ ?_
    · unfold kG_look; rw [isPlace_out (Or.inl ho)]; rfl
    · unfold kM_look; rw [mPlace_out (Or.inl ho)]; rfl
  · refine hno (-2) ?_ ?_
    · unfold kG_look; rw [isPlace_out (Or.inr ho)]; rfl
    · unfold kM_look; rw [mPlace_out (Or.inr ho)]; rfl
  · obtain ⟨h0, h1, h2, -⟩ := hH p hp
    have z31 : mI (sI σ 30 0 0 0) 31 0 p = mI σ 31 0 p := rfl
    have z32 : mI (sI σ 30 0 0 0) 32 0 p = mI σ 32 0 p := rfl
    have z33 : mI (sI σ 30 0 0 0) 33 0 p = mI σ 33 0 p := rfl
    have z34 : mI (sI σ 30 0 0 0) 34 0 p = mI σ 34 0 p := rfl
    by_cases w0 : x2 = 0
    · refine hno (mI σ 31 0 p) ?_ ?_
      · unfold kG_look kH_kindAt
        simp only [isPlace_in hp, Option.bind_some, show ¬ ((1 : Int32) = 0) by decide, if_false, roomAt_in hH hp, w0, if_true]
        by_cases hr : isRm σ p = true
        · rw [if_pos hr]
          simp only [Option.elim_some, Option.bind_some, ((hH p hp).2.2.2.2.2.2.1 hr).1]
        · rw [if_neg hr]
          simp only [Option.elim_none, Option.bind_some, inr_ hp, if_true, ix_ (show p < 2 ^ 31 by omega), h2]
          rcases no_rm hH hp (by simpa using hr) with e | e
          · rw [e]; rfl
          · rw [e]; rfl
      · unfold kM_look
        simp only [mPlace_in hp, Option.bind_some, show ¬ ((1 : Int32) = 0) by decide, if_false, w0, if_true, inr_ hp, ix_ (show p < 2 ^ 31 by omega), z31]
    · by_cases hr : isRm σ p = true
      · obtain ⟨f0, f1, f2, f3, -⟩ := (hH p hp).2.2.2.2.2.2.1 hr
        have hcl : kG_look σ (nI p) x2 = some (if x2 = 1 then mI σ 32 0 p else if x2 = 2 then mI σ 33 0 p else if x2 = 3 then mI σ 34 0 p else -1, σ) := by
          unfold kG_look
          simp only [isPlace_in hp, Option.bind_some, show ¬ ((1 : Int32) = 0) by decide, if_false, roomAt_in hH hp, w0, hr, if_true, Option.elim_some, f1, f2, f3]
          split
          · rfl
          · split
            · rfl
            · split <;> rfl
        have hmo : kM_look σ (nI p) x2 = some (if x2 = 1 then mI σ 32 0 p else if x2 = 2 then mI σ 33 0 p else if x2 = 3 then mI σ 34 0 p else -1, sI σ 30 0 0 0) := by
          unfold kM_look
          simp only [mPlace_in hp, Option.bind_some, show ¬ ((1 : Int32) = 0) by decide, if_false, w0, mRoom_in hp, hrm0, hr, if_true, inr_ hp, ix_ (show p < 2 ^ 31 by omega), z32, z33, z34]
          by_cases c0 : x2 < 0
          · have e1 : x2 ≠ 1 := fun z => by rw [z] at c0; exact absurd c0 (by decide)
            have e2 : x2 ≠ 2 := fun z => by rw [z] at c0; exact absurd c0 (by decide)
            have e3 : x2 ≠ 3 := fun z => by rw [z] at c0; exact absurd c0 (by decide)
            simp [c0, e1, e2, e3]
          · by_cases c3 : x2 ≤ 3
            · obtain ⟨j, hj, rfl⟩ := nI_of2 (M := 3) (n := 3) (by decide) c0 c3
              rcases (show j = 0 ∨ j = 1 ∨ j = 2 ∨ j = 3 by omega) with rfl | rfl | rfl | rfl
              · exact absurd rfl w0
              · rfl
              · rfl
              · rfl
            · have e1 : x2 ≠ 1 := fun z => by rw [z] at c3; exact absurd (show (1 : Int32) ≤ 3 by decide) c3
              have e2 : x2 ≠ 2 := fun z => by rw [z] at c3; exact absurd (show (2 : Int32) ≤ 3 by decide) c3
              have e3 : x2 ≠ 3 := fun z => by rw [z] at c3; exact absurd (show (3 : Int32) ≤ 3 by decide) c3
              simp [c0, c3, e1, e2, e3]
        exact hno _ hcl hmo
      · refine hno (-1) ?_ ?_
        · unfold kG_look
          simp only [isPlace_in hp, Option.bind_some, show ¬ ((1 : Int32) = 0) by decide, if_false, roomAt_in hH hp, w0, hr, Option.elim_none]
          rfl
        · unfold kM_look
          simp only [mPlace_in hp, Option.bind_some, show ¬ ((1 : Int32) = 0) by decide, if_false, w0, mRoom_in hp, hrm0, hr, if_true]
          rfl
theorem E_night {σ : Mem} {x1 x2 : Int32} (hI : INV σ) : EQ2 (fun σ => kG_night σ x1 x2) (fun σ => kM_night σ x1 x2) σ := by
  obtain ⟨N, d, P, R, hI⟩ := hI
  have hH := hI.1
  have hno : ∀ r : Int32, kG_night σ x1 x2 = some (r, σ) → kM_night σ x1 x2 = some (r, sI σ 30 0 0 0) → EQ2 (fun σ => kG_night σ x1 x2) (fun σ => kM_night σ x1 x2) σ := fun r a b => ⟨r, σ, _, a, b, N, d, P, R, hI.thr⟩
  have hrm0 : ∀ p, isRm (sI σ 30 0 0 0) p = isRm σ p := fun p => rfl
  rcases i32 x2 60 with hn | hn | ⟨n, hn, rfl⟩
  · refine hno (-4) ?_ ?_
    · unfold kG_night; rw [isNight_out (Or.inl hn)]; rfl
    · unfold kM_night; rw [mNight_out (Or.inl hn)]; rfl
  · refine hno (-4) ?_ ?_
    · unfold kG_night; rw [isNight_out (Or.inr hn)]; rfl
    · unfold kM_night; rw [mNight_out (Or.inr hn)]; rfl
  · rcases i32 x1 16 with ho | ho | ⟨p, hp, rfl⟩
    · refine hno (-3) ?_ ?_
      · unfold kG_night; simp only [isNight_in hn, Option.bind_some, show ¬ ((1 : Int32) = 0) by decide, if_false, roomAt_out (Or.inl ho), Option.elim_none]
      · unfold kM_night; simp only [mNight_in hn, Option.bind_some, show ¬ ((1 : Int32) = 0) by decide, if_false, mRoom_out (Or.inl ho), if_true]
    · refine hno (-3) ?_ ?_
      · unfold kG_night; simp only [isNight_in hn, Option.bind_some, show ¬ ((1 : Int32) = 0) by decide, if_false, roomAt_out (Or.inr ho), Option.elim_none]
      · unfold kM_night; simp only [mNight_in hn, Option.bind_some, show ¬ ((1 : Int32) = 0) by decide, if_false, mRoom_out (Or.inr ho), if_true]
    · by_cases hr : isRm σ p = true
      · refine hno _ ?_ (?_ : kM_night σ (nI p) (nI n) = some (if mI σ 37 0 p = 0 then (if mI σ 35 0 p ≤ nI n then -1 else if ((mL σ 36 0 p >>> ((nI n).toInt64 &&& 63)) &&& 1) = 0 then 1 else 0) else -2, _))
        · unfold kG_night
          simp only [isNight_in hn, Option.bind_some, show ¬ ((1 : Int32) = 0) by decide, if_false, roomAt_in hH hp, hr, if_true, Option.elim_some, state_in hH hr hn]
        · unfold kM_night
          have z37 : mI (sI σ 30 0 0 0) 37 0 p = mI σ 37 0 p := rfl
          have z35 : mI (sI σ 30 0 0 0) 35 0 p = mI σ 35 0 p := rfl
          have z36 : mL (sI σ 30 0 0 0) 36 0 p = mL σ 36 0 p := rfl
          simp only [mNight_in hn, Option.bind_some, show ¬ ((1 : Int32) = 0) by decide, if_false, mRoom_in hp, hrm0, hr, if_true, inr_ hp, ix_ (show p < 2 ^ 31 by omega), z37, z35, z36, cmp0]
          obtain ⟨s, hs, es⟩ := sh_ex (mL σ 36 0 p)
          rw [es, bitL (show n < 64 by omega)]
          by_cases c1 : mI σ 37 0 p = 0
          · rw [if_pos c1, if_pos c1]
            by_cases c2 : nI n < mI σ 35 0 p
            · rw [if_pos c2, if_neg (Int32.not_le.mpr c2)]
              by_cases t : s.testBit n = true
              · rw [if_pos t, if_pos rfl, if_neg (by decide)]
              · rw [if_neg t, if_neg (by decide), if_pos rfl]
            · rw [if_neg c2, if_pos (Int32.not_lt.mp c2)]
          · rw [if_neg c1, if_neg c1]
      · refine hno (-3) ?_ ?_
        · unfold kG_night
          simp only [isNight_in hn, Option.bind_some, show ¬ ((1 : Int32) = 0) by decide, if_false, roomAt_in hH hp, hr, Option.elim_none]
          rfl
        · unfold kM_night
          simp only [mNight_in hn, Option.bind_some, show ¬ ((1 : Int32) = 0) by decide, if_false, mRoom_in hp, hrm0, hr]
          rfl
