theorem i32_3 (x : Int32) : 4 ≤ x ↔ 3 < x := by
  rw [Int32.le_iff_toInt_le, Int32.lt_iff_toInt_lt, show (4 : Int32).toInt = 4 by decide, show (3 : Int32).toInt = 3 by decide]
  omega
theorem i32_9 (x : Int32) : x < 10 ↔ ¬ 9 < x := by
  rw [Int32.lt_iff_toInt_lt, Int32.lt_iff_toInt_lt, show (10 : Int32).toInt = 10 by decide, show (9 : Int32).toInt = 9 by decide]
  omega
theorem E_room {σ : Mem} {x1 x2 x3 x4 x5 : Int32} (hI : INV σ) : EQ2 (fun σ => kG_room σ x1 x2 x3 x4 x5) (fun σ => kM_room σ x1 x2 x3 x4 x5) σ := by
  obtain ⟨N, d, P, R, hI⟩ := hI
  have hH := hI.1
  have hno : ∀ r : Int32, kG_room σ x1 x2 x3 x4 x5 = some (r, σ) → kM_room σ x1 x2 x3 x4 x5 = some (r, sI σ 30 0 0 0) → EQ2 (fun σ => kG_room σ x1 x2 x3 x4 x5) (fun σ => kM_room σ x1 x2 x3 x4 x5) σ := fun r a b => ⟨r, σ, _, a, b, N, d, P, R, hI.thr⟩
  rcases i32 x1 16 with ho | ho | ⟨p, hp, rfl⟩
  · refine hno 0 ?_ ?_
    · unfold kG_room; rw [isEmpty_out (Or.inl ho)]; rfl
    · unfold kM_room; rw [mPlace_out (Or.inl ho)]; rfl
  · refine hno 0 ?_ ?_
    · unfold kG_room; rw [isEmpty_out (Or.inr ho)]; rfl
    · unfold kM_room; rw [mPlace_out (Or.inr ho)]; rfl
  · by_cases hk : mI σ 31 0 p = -1
    · have hk0 : ∀ τ : Mem, mI τ 31 0 p = mI σ 31 0 p → mI (sI τ 30 0 0 0) 31 0 p = -1 := fun τ h => by rw [mIsI, if_neg (by omega), h, hk]
      have hcl : kG_room σ (nI p) x2 x3 x4 x5 = if x2 < 0 ∨ 4 ≤ x2 ∨ x3 < 0 ∨ ¬ x3 < 10 ∨ x5 < 0 ∨ 60 < x5 ∨ (x2 = 3 ∧ (x4 < 2 ∨ ¬ x4 ≤ 6)) then some (0, σ) else kG_room_j64 σ (nI p) x2 x3 x4 x5 := by
        unfold kG_room
        simp only [isEmpty_in hH hp, hk, if_true, Option.bind_some, show ¬ ((1 : Int32) = 0) by decide, if_false]
        by_cases c1 : x2 < 0
        · simp [c1]
        · by_cases c2 : 4 ≤ x2
          · simp [c1, c2]
          · by_cases c3 : x3 < 0
            · simp [c1, c2, c3]
            · by_cases c4 : x3 < 10
              · by_cases c5 : x5 < 0
                · simp [c1, c2, c3, c4, c5]
                · by_cases c6 : 60 < x5
                  · simp [c1, c2, c3, c4, c5, c6]
                  · by_cases c7 : x2 = 3
                    · by_cases c8 : x4 < 2
                      · simp [c1, c2, c3, c4, c5, c6, c7, c8]
                      · by_cases c9 : x4 ≤ 6
                        · have c9' : ¬ 6 < x4 := Int32.not_lt.mpr c9
                          simp only [c1, c2, c3, c4, c5, c6, c7, c8, c9, if_true, if_false, not_true, or_self, and_false, false_or]
                          simp
                        · simp [c1, c2, c3, c4, c5, c6, c7, c8, c9]
                    · simp [c1, c2, c3, c4, c5, c6, c7]
              · simp [c1, c2, c3, c4]
      have hmo : ∀ τ : Mem, mI τ 31 0 p = mI σ 31 0 p → kM_room τ (nI p) x2 x3 x4 x5 = if x2 < 0 ∨ 4 ≤ x2 ∨ x3 < 0 ∨ ¬ x3 < 10 ∨ x5 < 0 ∨ 60 < x5 ∨ (x2 = 3 ∧ (x4 < 2 ∨ ¬ x4 ≤ 6)) then some (0, sI τ 30 0 0 0) else kM_room_j73 (sI τ 30 0 0 0) (nI p) x2 x3 x4 x5 := by
        intro τ hτ
        unfold kM_room
        simp only [mPlace_in hp, Option.bind_some, show ¬ ((1 : Int32) = 0) by decide, if_false, inr_ hp, if_true, ix_ (show p < 2 ^ 31 by omega), hk0 τ hτ, ← i32_3]
        by_cases c1 : x2 < 0
        · simp [c1]
        · by_cases c2 : 4 ≤ x2
          · simp [c1, c2]
          · by_cases c3 : x3 < 0
            · simp [c1, c2, c3]
            · by_cases c4 : x3 < 10
              · have c4' : ¬ 9 < x3 := (i32_9 x3).mp c4
                by_cases c5 : x5 < 0
                · simp [c1, c2, c3, c4, c4', c5]
                · by_cases c6 : 60 < x5
                  · simp [c1, c2, c3, c4, c4', c5, c6]
                  · by_cases c7 : x2 = 3
                    · by_cases c8 : x4 < 2
                      · simp [c1, c2, c3, c4, c4', c5, c6, c7, c8]
                      · by_cases c9 : x4 ≤ 6
                        · simp only [c1, c2, c3, c4, c4', c5, c6, c7, c8, c9, if_true, if_false, not_true, or_self, and_false, false_or]
                          simp
                        · simp [c1, c2, c3, c4, c4', c5, c6, c7, c8, c9]
                    · simp [c1, c2, c3, c4, c4', c5, c6, c7]
              · have c4' : 9 < x3 := Classical.byContradiction fun z => c4 ((i32_9 x3).mpr z)
                simp [c1, c2, c3, c4, c4']
      by_cases hc : x2 < 0 ∨ 4 ≤ x2 ∨ x3 < 0 ∨ ¬ x3 < 10 ∨ x5 < 0 ∨ 60 < x5 ∨ (x2 = 3 ∧ (x4 < 2 ∨ ¬ x4 ≤ 6))
      · rw [if_pos hc] at hcl
        exact hno 0 hcl (by rw [hmo σ rfl, if_pos hc])
      · rw [if_neg hc] at hcl
        simp only [not_or, not_and] at hc
        obtain ⟨c1, c2, c3, c4, c5, c6, c7⟩ := hc
        have c4 := Classical.byContradiction c4
        obtain ⟨k, hk4, rfl⟩ : ∃ k, k < 4 ∧ x2 = nI k := by
          obtain ⟨k, hkk, rfl⟩ := nI_of c1
          refine ⟨k, ?_, rfl⟩
          have := mt (nI_leI (a := 4) (by decide) hkk).mpr c2
          omega
        obtain ⟨f, hf, rfl⟩ : ∃ f, f < 10 ∧ x3 = nI f := by
          obtain ⟨f, hff, rfl⟩ := nI_of c3
          exact ⟨f, (nI_ltI (b := 10) hff (by decide)).mp c4, rfl⟩
        obtain ⟨n, hn, rfl⟩ : ∃ n, n ≤ 60 ∧ x5 = nI n := by
          obtain ⟨n, hnn, rfl⟩ := nI_of c5
          refine ⟨n, ?_, rfl⟩
          have := mt (nI_ltI (a := 60) (by decide) hnn).mpr c6
          omega
        obtain ⟨b, hb1, hb6, eb⟩ : ∃ b, 1 ≤ b ∧ b ≤ 6 ∧ (if nI k = 3 then x4 else if nI k = 0 then 1 else 2) = nI b := by
          by_cases k3 : nI k = 3
          · rw [if_pos k3]
            obtain ⟨c8, c9⟩ := c7 k3
            have c9 := Classical.byContradiction c9
            have c0 : ¬ x4 < 0 := fun z => c8 (Int32.lt_of_lt_of_le z (by decide))
            obtain ⟨b, hbb, rfl⟩ := nI_of c0
            refine ⟨b, ?_, (nI_leI (b := 6) hbb (by decide)).mp c9, rfl⟩
            have := mt (nI_ltI (b := 2) hbb (by decide)).mpr c8
            omega
          · rw [if_neg k3]
            by_cases k0 : nI k = 0
            · rw [if_pos k0]; exact ⟨1, by omega, by omega, rfl⟩
            · rw [if_neg k0]; exact ⟨2, by omega, by omega, rfl⟩
        obtain ⟨h0, h1, h2, h3, h4, h5, h6, h7⟩ := hH p hp
        have hrp : isRm σ p = false := by
          cases e : isRm σ p with
          | false => rfl
          | true => rcases kd_of hH e with q | q | q | q <;> rw [q] at hk <;> exact absurd hk (by decide)
        obtain ⟨b1, b2, b3⟩ := h5 hrp
        obtain ⟨d1, d2, d3, -⟩ := hI.2.2.1
        obtain ⟨p1, p2, p3, p4⟩ := hI.2.2.2.2.1
        obtain ⟨τ, hτ⟩ : ∃ τ, τ = sR (sV (sL (sI (sI (sI (sI (sI (sI σ 20 p 0 (nI k)) 20 p 1 (nI f)) 20 p 2 (nI b)) 20 p 3 (-1)) 20 p 4 0) 20 p 5 (nI n)) 20 p 6 0) 20 p) 3 0 p (some p) := ⟨_, rfl⟩
        have A3 : kG_replanFrom τ 0 = some ((), sI τ 1 0 7 (nI d)) := replan0 (P := P) (by rw [hτ]; simp [mIsI, mIsL, mIsR, mIsV, mIfI, mIsW, mLsI, mLsL, mLsR, mLsV, mLfI, mLsW, mRsI, mRsL, mRsR, mRsV, mRfI, mRsW, mVsI, mVsL, mVsR, mVsV, mVfI, mVsW]; exact d2) (by rw [hτ]; simp [mIsI, mIsL, mIsR, mIsV, mIfI, mIsW, mLsI, mLsL, mLsR, mLsV, mLfI, mLsW, mRsI, mRsL, mRsR, mRsV, mRfI, mRsW, mVsI, mVsL, mVsR, mVsV, mVfI, mVsW]; exact p1) p2 p3
        have hc2 : kG_room σ (nI p) (nI k) (nI f) x4 (nI n) = some (1, sI τ 1 0 7 (nI d)) := by
          rw [hcl]
          unfold kG_room_j64 kR_init kH_putRoom
          simp only [ix_ (show p < 2 ^ 31 by omega), h3, hrp, if_true, Option.bind_some, isPlace_in hp, show ¬ ((1 : Int32) = 0) by decide, if_false, inr_ hp, eb, ← hτ, A3]
        obtain ⟨σ1, hσ1⟩ : ∃ σ1, σ1 = sI τ 1 0 7 (nI d) := ⟨_, rfl⟩
        rw [← hσ1] at hc2
        have n31 : mI σ1 31 0 p = mI σ 31 0 p := by rw [hσ1, hτ]; simp [mIsI, mIsL, mIsR, mIsV, mIfI, mIsW, mLsI, mLsL, mLsR, mLsV, mLfI, mLsW, mRsI, mRsL, mRsR, mRsV, mRfI, mRsW, mVsI, mVsL, mVsR, mVsV, mVfI, mVsW]
        obtain ⟨σ2, hσ2⟩ : ∃ σ2, σ2 = sI (sI (sI (sI (sI σ1 30 0 0 0) 31 0 p (nI k)) 32 0 p (nI f)) 33 0 p (nI b)) 35 0 p (nI n) := ⟨_, rfl⟩
        have hm2 : kM_room σ1 (nI p) (nI k) (nI f) x4 (nI n) = some (1, σ2) := by
          rw [hmo σ1 n31, if_neg (by
            simp only [not_or, not_and]
            exact ⟨c1, c2, c3, fun z => z c4, c5, c6, c7⟩)]
          unfold kM_room_j73 kM_room_j111
          simp only [inr_ hp, if_true, ix_ (show p < 2 ^ 31 by omega)]
          rw [hσ2, ← eb]
          by_cases k3 : nI k = 3
          · rw [if_pos k3, if_pos k3]
          · rw [if_neg k3, if_neg k3]
            by_cases k0 : nI k = 0
            · rw [if_pos k0, if_pos k0]
            · rw [if_neg k0, if_neg k0]
        have m31 : ∀ j, j ≠ p → mI σ2 31 0 j = mI σ 31 0 j := fun j e => by rw [hσ2, hσ1, hτ]; simp [mIsI, mIsL, mIsR, mIsV, mIfI, mIsW, mLsI, mLsL, mLsR, mLsV, mLfI, mLsW, mRsI, mRsL, mRsR, mRsV, mRfI, mRsW, mVsI, mVsL, mVsR, mVsV, mVfI, mVsW, e]
        have e31 : mI σ2 31 0 p = nI k := by rw [hσ2]; simp [mIsI, mIsL, mIsR, mIsV, mIfI, mIsW, mLsI, mLsL, mLsR, mLsV, mLfI, mLsW, mRsI, mRsL, mRsR, mRsV, mRfI, mRsW, mVsI, mVsL, mVsR, mVsV, mVfI, mVsW]
        have w34 : ∀ j, mI σ2 34 0 j = mI σ 34 0 j := fun j => by rw [hσ2, hσ1, hτ]; simp [mIsI, mIsL, mIsR, mIsV, mIfI, mIsW, mLsI, mLsL, mLsR, mLsV, mLfI, mLsW, mRsI, mRsL, mRsR, mRsV, mRfI, mRsW, mVsI, mVsL, mVsR, mVsV, mVfI, mVsW]
        have hkk : nI k = 0 ∨ nI k = 1 ∨ nI k = 2 ∨ nI k = 3 := by
          rcases (show k = 0 ∨ k = 1 ∨ k = 2 ∨ k = 3 by omega) with rfl | rfl | rfl | rfl
          · exact Or.inl rfl
          · exact Or.inr (Or.inl rfl)
          · exact Or.inr (Or.inr (Or.inl rfl))
          · exact Or.inr (Or.inr (Or.inr rfl))
        have hr2 : isRm σ2 p = true := rm_kd hp (by rw [e31]; exact hkk)
        have hrm : ∀ j, j ≠ p → isRm σ2 j = isRm σ j := fun j e => by unfold isRm; rw [m31 j e]
        refine ⟨1, σ1, σ2, hc2, hm2, N, d, d, R, ?_⟩
        refine INV'.hs hI (fun t i k' g1 g2 => ?_) (fun t i g => ?_) (fun j hj => ?_) (fun j hj => ?_) ?_ (by omega) (by omega) (fun n h1 h2 => by omega)
        · have t3 : t ≠ 3 := fun z => g1 (by rw [z]; decide)
          have t20 : t ≠ 20 := fun z => g1 (by rw [z]; decide)
          have t31 : t ≠ 31 := fun z => g1 (by rw [z]; decide)
          have t32 : t ≠ 32 := fun z => g1 (by rw [z]; decide)
          have t33 : t ≠ 33 := fun z => g1 (by rw [z]; decide)
          have t35 : t ≠ 35 := fun z => g1 (by rw [z]; decide)
          simp only [List.mem_cons, List.not_mem_nil, or_false, not_or, Prod.mk.injEq, not_and] at g2
          rw [hσ2, hσ1, hτ]
          refine ⟨?_, ?_, ?_⟩
          · simp only [mIsI, mIsL, mIsR, mIsV, mIfI, mIsW, mLsI, mLsL, mLsR, mLsV, mLfI, mLsW, mRsI, mRsL, mRsR, mRsV, mRfI, mRsW, mVsI, mVsL, mVsR, mVsV, mVfI, mVsW, t20, t31, t32, t33, t35, false_and, if_false]
            rw [if_neg (fun z => g2.2 z.1 z.2.2), if_neg (fun z => g2.1 z.1 z.2.2)]
          · simp only [mIsI, mIsL, mIsR, mIsV, mIfI, mIsW, mLsI, mLsL, mLsR, mLsV, mLfI, mLsW, mRsI, mRsL, mRsR, mRsV, mRfI, mRsW, mVsI, mVsL, mVsR, mVsV, mVfI, mVsW, t20, false_and, if_false]
          · simp only [mIsI, mIsL, mIsR, mIsV, mIfI, mIsW, mLsI, mLsL, mLsR, mLsV, mLfI, mLsW, mRsI, mRsL, mRsR, mRsV, mRfI, mRsW, mVsI, mVsL, mVsR, mVsV, mVfI, mVsW, t3, false_and, if_false]
        · rw [hσ2, hσ1, hτ]
          simp only [mIsI, mIsL, mIsR, mIsV, mIfI, mIsW, mLsI, mLsL, mLsR, mLsV, mLfI, mLsW, mRsI, mRsL, mRsR, mRsV, mRfI, mRsW, mVsI, mVsL, mVsR, mVsV, mVfI, mVsW, g, false_and, if_false]
        · obtain ⟨a1, a2, a3, a4, a5, a6, a7, a8⟩ := hH j hj
          unfold HIp
          by_cases e : j = p
          · subst e
            have hne4 : nI k ≠ 4 := fun z => by rcases hkk with q | q | q | q <;> rw [q] at z <;> exact absurd z (by decide)
            rw [hr2, e31, w34, if_pos rfl, if_neg hne4]
            refine ⟨?_, ?_, ?_, ?_, ?_, (fun z => by cases z), fun _ => ⟨?_, ?_, ?_, ?_, ?_, fun _ => ?_, fun z => ?_, ⟨f, hf, ?_⟩, ⟨n, hn, ?_⟩, ⟨b, hb1, hb6, ?_⟩⟩, Or.inl b1⟩
            · rcases hkk with q | q | q | q
              · exact Or.inr (Or.inl q)
              · exact Or.inr (Or.inr (Or.inl q))
              · exact Or.inr (Or.inr (Or.inr (Or.inl q)))
              · exact Or.inr (Or.inr (Or.inr (Or.inr (Or.inl q))))
            · rw [hσ2, hσ1, hτ]; simp [mIsI, mIsL, mIsR, mIsV, mIfI, mIsW, mLsI, mLsL, mLsR, mLsV, mLfI, mLsW, mRsI, mRsL, mRsR, mRsV, mRfI, mRsW, mVsI, mVsL, mVsR, mVsV, mVfI, mVsW]
            · rw [hσ2, hσ1, hτ]; simp [mIsI, mIsL, mIsR, mIsV, mIfI, mIsW, mLsI, mLsL, mLsR, mLsV, mLfI, mLsW, mRsI, mRsL, mRsR, mRsV, mRfI, mRsW, mVsI, mVsL, mVsR, mVsV, mVfI, mVsW]; rw [a3, if_neg (by rw [hk]; decide)]
            · rw [hσ2, hσ1, hτ]; simp [mIsI, mIsL, mIsR, mIsV, mIfI, mIsW, mLsI, mLsL, mLsR, mLsV, mLfI, mLsW, mRsI, mRsL, mRsR, mRsV, mRfI, mRsW, mVsI, mVsL, mVsR, mVsV, mVfI, mVsW]
            · rw [hσ2, hσ1, hτ]; simp [mIsI, mIsL, mIsR, mIsV, mIfI, mIsW, mLsI, mLsL, mLsR, mLsV, mLfI, mLsW, mRsI, mRsL, mRsR, mRsV, mRfI, mRsW, mVsI, mVsL, mVsR, mVsV, mVfI, mVsW]; exact Or.inl b3
            · rw [hσ2, hσ1, hτ]; simp [mIsI, mIsL, mIsR, mIsV, mIfI, mIsW, mLsI, mLsL, mLsR, mLsV, mLfI, mLsW, mRsI, mRsL, mRsR, mRsV, mRfI, mRsW, mVsI, mVsL, mVsR, mVsV, mVfI, mVsW]
            · rw [hσ2, hσ1, hτ]; simp [mIsI, mIsL, mIsR, mIsV, mIfI, mIsW, mLsI, mLsL, mLsR, mLsV, mLfI, mLsW, mRsI, mRsL, mRsR, mRsV, mRfI, mRsW, mVsI, mVsL, mVsR, mVsV, mVfI, mVsW]
            · rw [hσ2, hσ1, hτ]; simp [mIsI, mIsL, mIsR, mIsV, mIfI, mIsW, mLsI, mLsL, mLsR, mLsV, mLfI, mLsW, mRsI, mRsL, mRsR, mRsV, mRfI, mRsW, mVsI, mVsL, mVsR, mVsV, mVfI, mVsW]
            · rw [hσ2, hσ1, hτ]; simp [mIsI, mIsL, mIsR, mIsV, mIfI, mIsW, mLsI, mLsL, mLsR, mLsV, mLfI, mLsW, mRsI, mRsL, mRsR, mRsV, mRfI, mRsW, mVsI, mVsL, mVsR, mVsV, mVfI, mVsW]; exact b1.symm
            · rw [hσ2, hσ1, hτ]; simp [mIsI, mIsL, mIsR, mIsV, mIfI, mIsW, mLsI, mLsL, mLsR, mLsV, mLfI, mLsW, mRsI, mRsL, mRsR, mRsV, mRfI, mRsW, mVsI, mVsL, mVsR, mVsV, mVfI, mVsW]; exact b3.symm
            · rw [hσ2, hσ1, hτ]; simp [mIsI, mIsL, mIsR, mIsV, mIfI, mIsW, mLsI, mLsL, mLsR, mLsV, mLfI, mLsW, mRsI, mRsL, mRsR, mRsV, mRfI, mRsW, mVsI, mVsL, mVsR, mVsV, mVfI, mVsW]; exact b2.symm
            · rw [hσ2, hσ1, hτ] at z; simp [mIsI, mIsL, mIsR, mIsV, mIfI, mIsW, mLsI, mLsL, mLsR, mLsV, mLfI, mLsW, mRsI, mRsL, mRsR, mRsV, mRfI, mRsW, mVsI, mVsL, mVsR, mVsV, mVfI, mVsW] at z; rw [b3] at z; exact absurd z (by decide)
            · rw [hσ2, hσ1, hτ]; simp [mIsI, mIsL, mIsR, mIsV, mIfI, mIsW, mLsI, mLsL, mLsR, mLsV, mLfI, mLsW, mRsI, mRsL, mRsR, mRsV, mRfI, mRsW, mVsI, mVsL, mVsR, mVsV, mVfI, mVsW]
            · rw [hσ2, hσ1, hτ]; simp [mIsI, mIsL, mIsR, mIsV, mIfI, mIsW, mLsI, mLsL, mLsR, mLsV, mLfI, mLsW, mRsI, mRsL, mRsR, mRsV, mRfI, mRsW, mVsI, mVsL, mVsR, mVsV, mVfI, mVsW]
            · rw [hσ2, hσ1, hτ]; simp [mIsI, mIsL, mIsR, mIsV, mIfI, mIsW, mLsI, mLsL, mLsR, mLsV, mLfI, mLsW, mRsI, mRsL, mRsR, mRsV, mRfI, mRsW, mVsI, mVsL, mVsR, mVsV, mVfI, mVsW]
          · rw [hrm j e, m31 j e, w34]
            have q3 : mR σ2 3 0 j = mR σ 3 0 j := by rw [hσ2, hσ1, hτ]; simp [mIsI, mIsL, mIsR, mIsV, mIfI, mIsW, mLsI, mLsL, mLsR, mLsV, mLfI, mLsW, mRsI, mRsL, mRsR, mRsV, mRfI, mRsW, mVsI, mVsL, mVsR, mVsV, mVfI, mVsW, e]
            have q4 : mI σ2 4 0 j = mI σ 4 0 j := by rw [hσ2, hσ1, hτ]; simp [mIsI, mIsL, mIsR, mIsV, mIfI, mIsW, mLsI, mLsL, mLsR, mLsV, mLfI, mLsW, mRsI, mRsL, mRsR, mRsV, mRfI, mRsW, mVsI, mVsL, mVsR, mVsV, mVfI, mVsW]
            have q20 : ∀ k', mI σ2 20 j k' = mI σ 20 j k' := fun k' => by rw [hσ2, hσ1, hτ]; simp [mIsI, mIsL, mIsR, mIsV, mIfI, mIsW, mLsI, mLsL, mLsR, mLsV, mLfI, mLsW, mRsI, mRsL, mRsR, mRsV, mRfI, mRsW, mVsI, mVsL, mVsR, mVsV, mVfI, mVsW, e]
            have q206 : mL σ2 20 j 6 = mL σ 20 j 6 := by rw [hσ2, hσ1, hτ]; simp [mIsI, mIsL, mIsR, mIsV, mIfI, mIsW, mLsI, mLsL, mLsR, mLsV, mLfI, mLsW, mRsI, mRsL, mRsR, mRsV, mRfI, mRsW, mVsI, mVsL, mVsR, mVsV, mVfI, mVsW, e]
            have q32 : mI σ2 32 0 j = mI σ 32 0 j := by rw [hσ2, hσ1, hτ]; simp [mIsI, mIsL, mIsR, mIsV, mIfI, mIsW, mLsI, mLsL, mLsR, mLsV, mLfI, mLsW, mRsI, mRsL, mRsR, mRsV, mRfI, mRsW, mVsI, mVsL, mVsR, mVsV, mVfI, mVsW, e]
            have q33 : mI σ2 33 0 j = mI σ 33 0 j := by rw [hσ2, hσ1, hτ]; simp [mIsI, mIsL, mIsR, mIsV, mIfI, mIsW, mLsI, mLsL, mLsR, mLsV, mLfI, mLsW, mRsI, mRsL, mRsR, mRsV, mRfI, mRsW, mVsI, mVsL, mVsR, mVsV, mVfI, mVsW, e]
            have q35 : mI σ2 35 0 j = mI σ 35 0 j := by rw [hσ2, hσ1, hτ]; simp [mIsI, mIsL, mIsR, mIsV, mIfI, mIsW, mLsI, mLsL, mLsR, mLsV, mLfI, mLsW, mRsI, mRsL, mRsR, mRsV, mRfI, mRsW, mVsI, mVsL, mVsR, mVsV, mVfI, mVsW, e]
            have q36 : mL σ2 36 0 j = mL σ 36 0 j := by rw [hσ2, hσ1, hτ]; simp [mIsI, mIsL, mIsR, mIsV, mIfI, mIsW, mLsI, mLsL, mLsR, mLsV, mLfI, mLsW, mRsI, mRsL, mRsR, mRsV, mRfI, mRsW, mVsI, mVsL, mVsR, mVsV, mVfI, mVsW]
            have q37 : mI σ2 37 0 j = mI σ 37 0 j := by rw [hσ2, hσ1, hτ]; simp [mIsI, mIsL, mIsR, mIsV, mIfI, mIsW, mLsI, mLsL, mLsR, mLsV, mLfI, mLsW, mRsI, mRsL, mRsR, mRsV, mRfI, mRsW, mVsI, mVsL, mVsR, mVsV, mVfI, mVsW]
            have qV : mV σ2 20 j = mV σ 20 j := by rw [hσ2, hσ1, hτ]; simp [mIsI, mIsL, mIsR, mIsV, mIfI, mIsW, mLsI, mLsL, mLsR, mLsV, mLfI, mLsW, mRsI, mRsL, mRsR, mRsV, mRfI, mRsW, mVsI, mVsL, mVsR, mVsV, mVfI, mVsW, e]
            rw [q3, q4, qV, q37, q36]
            refine ⟨a1, a2, a3, a4, a5, a6, fun h => ?_, ?_⟩
            · rw [q20, q20, q20, q20, q20, q20, q206, q32, q33, q35]
              exact a7 h
            · rw [w34, w34]
              rcases a8 with c | ⟨c1, c2, c3, c4, c5⟩ | ⟨c1, c2, c3, c4, c5⟩
              · exact Or.inl c
              · have : j + 1 ≠ p := fun z => by rw [z, hk] at c5; exact absurd c5 (by decide)
                exact Or.inr (Or.inl ⟨c1, c2, c3, c4, by rw [m31 _ this]; exact c5⟩)
              · have : j - 1 ≠ p := fun z => by rw [z, hk] at c5; exact absurd c5 (by decide)
                exact Or.inr (Or.inr ⟨c1, c2, c3, c4, by rw [m31 _ this]; exact c5⟩)
        · have hne : j ≠ p := fun z => by rw [z, hrp] at hj; cases hj
          exact ⟨by rw [hrm j hne]; exact hj, m31 j hne, by rw [hσ2, hσ1, hτ]; simp [mIsI, mIsL, mIsR, mIsV, mIfI, mIsW, mLsI, mLsL, mLsR, mLsV, mLfI, mLsW, mRsI, mRsL, mRsR, mRsV, mRfI, mRsW, mVsI, mVsL, mVsR, mVsV, mVfI, mVsW, hne], Or.inl (w34 j)⟩
        · rw [hσ2, hσ1]; simp [mIsI, mIsL, mIsR, mIsV, mIfI, mIsW, mLsI, mLsL, mLsR, mLsV, mLfI, mLsW, mRsI, mRsL, mRsR, mRsV, mRfI, mRsW, mVsI, mVsL, mVsR, mVsV, mVfI, mVsW]
    · refine hno 0 ?_ ?_
      · unfold kG_room; rw [isEmpty_in hH hp, if_neg hk]; rfl
      · unfold kM_room
        have hk0 : ¬ mI (sI σ 30 0 0 0) 31 0 p = -1 := hk
        simp only [mPlace_in hp, Option.bind_some, show ¬ ((1 : Int32) = 0) by decide, if_false, inr_ hp, if_true, ix_ (show p < 2 ^ 31 by omega), hk0]
