/-! the reference's loops of a night's end -/
def hmv (σ : Mem) (q n : Nat) : Bool := decide (1 ≤ n) && (!decide (mI σ 49 0 (60 * q + n) = -1) && (!decide (mI σ 49 0 (60 * q + (n - 1)) = -1) && !decide (mI σ 49 0 (60 * q + (n - 1)) = mI σ 49 0 (60 * q + n))))
theorem hasMoved_in {σ : Mem} {q n : Nat} (hq : q < 40) (hn : n < 60) : kM_hasMoved σ (nI q) (nI n) = some (if hmv σ q n = true then 1 else 0, σ) := by
  unfold kM_hasMoved
  rw [ixq, if_pos (inr_ (by omega)), ix_]
  cases n with
  | zero =>
    rw [if_pos (show nI 0 ≤ 0 by decide), if_neg (by simp [hmv])]
  | succ n =>
    rw [if_neg (nI_nle (by omega) (by omega)), show nI (60 * q + (n + 1)) - 1 = nI (60 * q + n) by rw [show 60 * q + (n + 1) = (60 * q + n) + 1 by omega, ← nI_1, Int32.add_sub_cancel], if_pos (inr_ (by omega)), if_pos (inr_ (by omega)), ix_]
    by_cases c1 : mI σ 49 0 (60 * q + (n + 1)) = -1
    · rw [if_pos c1, if_neg (by simp [hmv, c1])]
    · rw [if_neg c1]
      by_cases c2 : mI σ 49 0 (60 * q + n) = -1
      · rw [if_pos c2, if_neg (by simp [hmv, c2])]
      · rw [if_neg c2]
        by_cases c3 : mI σ 49 0 (60 * q + n) = mI σ 49 0 (60 * q + (n + 1))
        · rw [if_pos c3, if_neg (by simp [hmv, c3])]
        · rw [if_neg c3, if_pos (by simp [hmv, c1, c2, c3])]
section MLOOP
variable {σ : Mem} {N d : Nat}
theorem mMiss_ok (hN : N ≤ 40) (h20 : mI σ 30 0 20 = nI N) (h8 : mI σ 30 0 8 = nI d) (hst : ∀ q, q < N → ∃ s, s < 8 ∧ mI σ 40 0 q = nI s) : ∃ σ', loopF FU kM_next_s18 (0, σ) = some σ' ∧ Fx [40] [] σ σ' ∧ ∀ q, mI σ' 40 0 q = if q < N then fMiss (mI σ 40 0 q) (mI σ 43 0 q) (mI σ 44 0 q) (nI d) else mI σ 40 0 q := by
  obtain ⟨σ', a, b⟩ := st_loop (σ := σ) (N := N) (T := 40) (I := fun _ => 0) (K := fun q => q) (l := [40]) (m := []) (f := kM_next_s18) (F := fun q v => fMiss v (mI σ 43 0 q) (mI σ 44 0 q) (nI d)) hN (fun q => Or.inl (by simp)) (fun q q' _ h => h) (fun i τ hi hF h0 => by
    have e20 : mI τ 30 0 20 = nI N := by rw [hF.I 30 0 20]; exact h20
    have e8 : mI τ 30 0 8 = nI d := by rw [hF.I 30 0 8]; exact h8
    have e43 : mI τ 43 0 i = mI σ 43 0 i := hF.I 43 0 i
    have e44 : mI τ 44 0 i = mI σ 44 0 i := hF.I 44 0 i
    obtain ⟨s, hs, es⟩ := hst i hi
    obtain ⟨c1, c2, c3, c4, c5, c6, c7⟩ := st8 s hs
    have hwn : wnt τ i d = true ↔ nI s ≤ 2 ∧ mI σ 43 0 i ≤ nI d ∧ nI d < mI σ 44 0 i := by rw [wnt_iff, h0, es, e43, e44]
    simp only [kM_next_s18, e20, nge hi, if_false, inr_ (show i < 40 by omega), if_true, ix_ (show i < 2 ^ 31 by omega), h0, es, e8, mWants_in (show i < 40 by omega), Option.bind_some]
    by_cases c : s ≤ 1
    · have k1 : ¬ (1 : Int32) < nI s := fun z => by have := c7.mp z; omega
      have k2 : nI s = 0 ∨ nI s = 1 := by
        by_cases z : s = 0
        · exact Or.inl (c2.mpr z)
        · exact Or.inr (c3.mpr (by omega))
      have k3 : nI s ≤ 2 := c1.mpr (by omega)
      simp only [k1, if_false, fMiss, if_pos k2]
      by_cases u1 : nI d < mI σ 43 0 i
      · rw [if_neg (show ¬ wnt τ i d = true from fun z => absurd (hwn.mp z).2.1 (Int32.not_le.mpr u1)), if_pos u1]
        simp
      · by_cases u2 : mI σ 44 0 i ≤ nI d
        · rw [if_neg (show ¬ wnt τ i d = true from fun z => absurd (hwn.mp z).2.2 (Int32.not_lt.mpr u2)), if_neg u1, if_pos u2]
          simp
        · rw [if_pos (hwn.mpr ⟨k3, Int32.not_lt.mp u1, Int32.not_le.mp u2⟩), if_neg u1, if_neg u2]
          simp
    · have k1 : (1 : Int32) < nI s := c7.mpr (by omega)
      have k2 : ¬ (nI s = 0 ∨ nI s = 1) := fun z => by
        rcases z with z | z
        · have := c2.mp z; omega
        · have := c3.mp z; omega
      simp only [k1, if_true, fMiss, if_neg k2]
      simp) (fun τ hF => by
    have e20 : mI τ 30 0 20 = nI N := by rw [hF.I 30 0 20]; exact h20
    simp only [kM_next_s18, e20, nle (Nat.le_refl N), if_true])
  exact ⟨σ', a, b.1, fun q => b.2 q⟩
theorem mTurn_ok {x x1 : Int32} (hN : N ≤ 40) (h20 : mI σ 30 0 20 = nI N) (h8 : mI σ 30 0 8 = x) : ∃ σ', loopF FU (kM_next_s180 x1) (0, σ) = some σ' ∧ Fx [40] [] σ σ' ∧ ∀ q, mI σ' 40 0 q = if q < N then fTurn (mI σ 40 0 q) (mI σ 44 0 q) (mI σ 45 0 q) x else mI σ 40 0 q := by
  obtain ⟨σ', a, b⟩ := st_loop (σ := σ) (N := N) (T := 40) (I := fun _ => 0) (K := fun q => q) (l := [40]) (m := []) (f := kM_next_s180 x1) (F := fun q v => fTurn v (mI σ 44 0 q) (mI σ 45 0 q) x) hN (fun q => Or.inl (by simp)) (fun q q' _ h => h) (fun i τ hi hF h0 => by
    have e20 : mI τ 30 0 20 = nI N := by rw [hF.I 30 0 20]; exact h20
    have e8 : mI τ 30 0 8 = x := by rw [hF.I 30 0 8]; exact h8
    have e45 : mI τ 45 0 i = mI σ 45 0 i := hF.I 45 0 i
    have e44 : mI τ 44 0 i = mI σ 44 0 i := hF.I 44 0 i
    simp only [kM_next_s180, kM_next_j218, e20, nge hi, if_false, inr_ (show i < 40 by omega), if_true, ix_ (show i < 2 ^ 31 by omega), h0, e8, e44, e45, mIsI, show ¬ ((30 : Nat) = 40) by omega, show ¬ ((45 : Nat) = 40) by omega, false_and, and_self]
    by_cases c0 : mI σ 40 0 i = 2
    · simp only [c0, if_true, fTurn]
      by_cases c1 : mI σ 44 0 i = x
      · simp only [c1, if_true, show ¬ (3 : Int32) = 0 by decide, if_false]; simp
      · simp only [c1, if_false, show ¬ (2 : Int32) = 0 by decide]; simp
    · by_cases c1 : mI σ 40 0 i = 0
      · simp only [c1, if_true, show ¬ (0 : Int32) = 2 by decide, if_false, fTurn]
        by_cases c2 : x ≤ mI σ 45 0 i
        · simp only [c2, if_true]; simp
        · simp only [c2, if_false]; simp
      · simp only [c0, c1, if_false, fTurn]; simp) (fun τ hF => by
    have e20 : mI τ 30 0 20 = nI N := by rw [hF.I 30 0 20]; exact h20
    simp only [kM_next_s180, e20, nle (Nat.le_refl N), if_true])
  exact ⟨σ', a, b.1, fun q => b.2 q⟩
def wlk (σ : Mem) (d q : Nat) : Bool := decide (mI σ 40 0 q = 2) && (wnt σ q d && decide (mI σ 55 0 q = 0))
def sty (σ : Mem) (d q : Nat) : Bool := decide (mI σ 40 0 q = 2) && (wnt σ q d && !decide (mI σ 55 0 q = 0))
theorem mWalk_ok (hN : N ≤ 40) (hd : d < 60) (h20 : mI σ 30 0 20 = nI N) (h8 : mI σ 30 0 8 = nI d) : ∃ σ', loopF FU kM_next_s74 (0, 0, σ) = some (nI (fb_ct (wlk σ d) N), σ') ∧ Fx [40, 46, 47] [] σ σ' ∧ ∀ q, mI σ' 40 0 q = (if q < N ∧ wlk σ d q = true then 7 else mI σ 40 0 q) ∧ mI σ' 46 0 q = (if q < N ∧ sty σ d q = true then mI σ 46 0 q + 1 else mI σ 46 0 q) ∧ mI σ' 47 0 q = (if q < N ∧ sty σ d q = true ∧ hmv σ q d = true then mI σ 47 0 q + 1 else mI σ 47 0 q) := by
  obtain ⟨y, a, b1, b2, b3⟩ := lp_inv (f := kM_next_s74) (fun i s => ∃ τ, s = (nI (fb_ct (wlk σ d) i), nI i, τ) ∧ Fx [40, 46, 47] [] σ τ ∧ ∀ q, mI τ 40 0 q = (if q < i ∧ wlk σ d q = true then 7 else mI σ 40 0 q) ∧ mI τ 46 0 q = (if q < i ∧ sty σ d q = true then mI σ 46 0 q + 1 else mI σ 46 0 q) ∧ mI τ 47 0 q = (if q < i ∧ sty σ d q = true ∧ hmv σ q d = true then mI σ 47 0 q + 1 else mI σ 47 0 q))
    (fun y => y.1 = nI (fb_ct (wlk σ d) N) ∧ Fx [40, 46, 47] [] σ y.2 ∧ ∀ q, mI y.2 40 0 q = (if q < N ∧ wlk σ d q = true then 7 else mI σ 40 0 q) ∧ mI y.2 46 0 q = (if q < N ∧ sty σ d q = true then mI σ 46 0 q + 1 else mI σ 46 0 q) ∧ mI y.2 47 0 q = (if q < N ∧ sty σ d q = true ∧ hmv σ q d = true then mI σ 47 0 q + 1 else mI σ 47 0 q)) N (by omega) (fun i s hi hs => by
    obtain ⟨τ, rfl, a1, a2⟩ := hs
    refine Or.inl ?_
    have e20 : mI τ 30 0 20 = nI N := by rw [a1.I 30 0 20]; exact h20
    have e8 : mI τ 30 0 8 = nI d := by rw [a1.I 30 0 8]; exact h8
    have e40 : mI τ 40 0 i = mI σ 40 0 i := by rw [(a2 i).1, if_neg (by omega)]
    have e46 : mI τ 46 0 i = mI σ 46 0 i := by rw [(a2 i).2.1, if_neg (by omega)]
    have e47 : mI τ 47 0 i = mI σ 47 0 i := by rw [(a2 i).2.2, if_neg (by omega)]
    have e55 : mI τ 55 0 i = mI σ 55 0 i := a1.I 55 0 i
    have ew : wnt τ i d = wnt σ i d := by unfold wnt; rw [e40, a1.I 43 0 i, a1.I 44 0 i]
    have up : ∀ q (p : Prop) (hp : Decidable p), q ≠ i → (if q < i + 1 ∧ p then (1 : Int32) else 0) = if q < i ∧ p then 1 else 0 := fun q p hp hne => by
      by_cases c : q < i ∧ p
      · rw [if_pos c, if_pos ⟨by omega, c.2⟩]
      · rw [if_neg c, if_neg (fun z => c ⟨by omega, z.2⟩)]
    have keep : ∀ q, q ≠ i → ∀ τ' : Mem, mI τ' 40 0 q = mI τ 40 0 q → mI τ' 46 0 q = mI τ 46 0 q → mI τ' 47 0 q = mI τ 47 0 q → mI τ' 40 0 q = (if q < i + 1 ∧ wlk σ d q = true then 7 else mI σ 40 0 q) ∧ mI τ' 46 0 q = (if q < i + 1 ∧ sty σ d q = true then mI σ 46 0 q + 1 else mI σ 46 0 q) ∧ mI τ' 47 0 q = (if q < i + 1 ∧ sty σ d q = true ∧ hmv σ q d = true then mI σ 47 0 q + 1 else mI σ 47 0 q) := fun q hne τ' f1 f2 f3 => by
      obtain ⟨g1, g2, g3⟩ := a2 q
      have hlt : (q < i + 1) = (q < i) := propext ⟨fun _ => by omega, fun _ => by omega⟩
      rw [f1, f2, f3]
      simp only [hlt]
      exact ⟨g1, g2, g3⟩
    have hno : wlk σ d i = false → sty σ d i = false → ∃ s', some (Sum.inl (nI (fb_ct (wlk σ d) i), nI i + 1, τ)) = some (Sum.inl (β := Int32 × Mem) s') ∧ ∃ τ, s' = (nI (fb_ct (wlk σ d) (i + 1)), nI (i + 1), τ) ∧ Fx [40, 46, 47] [] σ τ ∧ ∀ q, mI τ 40 0 q = (if q < i + 1 ∧ wlk σ d q = true then 7 else mI σ 40 0 q) ∧ mI τ 46 0 q = (if q < i + 1 ∧ sty σ d q = true then mI σ 46 0 q + 1 else mI σ 46 0 q) ∧ mI τ 47 0 q = (if q < i + 1 ∧ sty σ d q = true ∧ hmv σ q d = true then mI σ 47 0 q + 1 else mI σ 47 0 q) := fun hf hf2 => by
      refine ⟨_, rfl, τ, by rw [fb_ct_succ, hf, nI_1]; rfl, a1, fun q => ?_⟩
      by_cases c : q = i
      · rw [c, hf, hf2, e40, e46, e47]
        simp
      · exact keep q c τ rfl rfl rfl
    simp only [kM_next_s74, e20, nge hi, if_false, inr_ (show i < 40 by omega), if_true, ix_ (show i < 2 ^ 31 by omega), e8, e40, mWants_in (show i < 40 by omega), Option.bind_some, ew]
    by_cases c0 : mI σ 40 0 i = 2
    · simp only [c0, if_true]
      by_cases c1 : wnt σ i d = true
      · simp only [c1, if_true, show ¬ ((1 : Int32) = 0) by decide, if_false, e55]
        by_cases c2 : mI σ 55 0 i = 0
        · simp only [c2, if_true]
          have ht : wlk σ d i = true := by simp [wlk, c0, c1, c2]
          have hf : sty σ d i = false := by simp [sty, c2]
          refine ⟨_, rfl, sI τ 40 0 i 7, by rw [fb_ct_succ, ht, nI_1, nI_1]; rfl, a1.sI, fun q => ?_⟩
          by_cases c : q = i
          · rw [c, ht, hf]
            simp [mIsI, mIsL, mIsR, mIsV, mIfI, mIsW, mLsI, mLsL, mLsR, mLsV, mLfI, mLsW, mRsI, mRsL, mRsR, mRsV, mRfI, mRsW, mVsI, mVsL, mVsR, mVsV, mVfI, mVsW, e46, e47]
          · exact keep q c _ (by simp [mIsI, mIsL, mIsR, mIsV, mIfI, mIsW, mLsI, mLsL, mLsR, mLsV, mLfI, mLsW, mRsI, mRsL, mRsR, mRsV, mRfI, mRsW, mVsI, mVsL, mVsR, mVsV, mVfI, mVsW, c]) (by simp [mIsI, mIsL, mIsR, mIsV, mIfI, mIsW, mLsI, mLsL, mLsR, mLsV, mLfI, mLsW, mRsI, mRsL, mRsR, mRsV, mRfI, mRsW, mVsI, mVsL, mVsR, mVsV, mVfI, mVsW]) (by simp [mIsI, mIsL, mIsR, mIsV, mIfI, mIsW, mLsI, mLsL, mLsR, mLsV, mLfI, mLsW, mRsI, mRsL, mRsR, mRsV, mRfI, mRsW, mVsI, mVsL, mVsR, mVsV, mVfI, mVsW])
        · have hf : wlk σ d i = false := by simp [wlk, c2]
          have ht : sty σ d i = true := by simp [sty, c0, c1, c2]
          have e8' : ∀ v, mI (sI τ 46 0 i v) 30 0 8 = nI d := fun v => by rw [mIsI, if_neg (by omega)]; exact e8
          have eh : ∀ v, hmv (sI τ 46 0 i v) i d = hmv σ i d := fun v => by
            unfold hmv
            rw [mIsI, if_neg (by omega), mIsI, if_neg (by omega), a1.I 49 0 _, a1.I 49 0 _]
          simp only [c2, if_false, e8', hasMoved_in (show i < 40 by omega) hd, eh, Option.bind_some, e46]
          by_cases c3 : hmv σ i d = true
          · simp only [c3, if_true, show ¬ ((1 : Int32) = 0) by decide, if_false]
            have e47' : ∀ v, mI (sI τ 46 0 i v) 47 0 i = mI σ 47 0 i := fun v => by rw [mIsI, if_neg (by omega)]; exact e47
            refine ⟨_, rfl, sI (sI τ 46 0 i (mI σ 46 0 i + 1)) 47 0 i (mI σ 47 0 i + 1), by rw [fb_ct_succ, hf, nI_1, e47']; rfl, (a1.sI).sI, fun q => ?_⟩
            by_cases c : q = i
            · rw [c, ht, hf, c3]
              simp [mIsI, mIsL, mIsR, mIsV, mIfI, mIsW, mLsI, mLsL, mLsR, mLsV, mLfI, mLsW, mRsI, mRsL, mRsR, mRsV, mRfI, mRsW, mVsI, mVsL, mVsR, mVsV, mVfI, mVsW, e40]
            · exact keep q c _ (by simp [mIsI, mIsL, mIsR, mIsV, mIfI, mIsW, mLsI, mLsL, mLsR, mLsV, mLfI, mLsW, mRsI, mRsL, mRsR, mRsV, mRfI, mRsW, mVsI, mVsL, mVsR, mVsV, mVfI, mVsW]) (by simp [mIsI, mIsL, mIsR, mIsV, mIfI, mIsW, mLsI, mLsL, mLsR, mLsV, mLfI, mLsW, mRsI, mRsL, mRsR, mRsV, mRfI, mRsW, mVsI, mVsL, mVsR, mVsV, mVfI, mVsW, c]) (by simp [mIsI, mIsL, mIsR, mIsV, mIfI, mIsW, mLsI, mLsL, mLsR, mLsV, mLfI, mLsW, mRsI, mRsL, mRsR, mRsV, mRfI, mRsW, mVsI, mVsL, mVsR, mVsV, mVfI, mVsW, c])
          · simp only [c3, if_false, if_true]
            refine ⟨_, rfl, sI τ 46 0 i (mI σ 46 0 i + 1), by rw [fb_ct_succ, hf, nI_1]; rfl, a1.sI, fun q => ?_⟩
            by_cases c : q = i
            · rw [c, ht, hf]
              simp [mIsI, mIsL, mIsR, mIsV, mIfI, mIsW, mLsI, mLsL, mLsR, mLsV, mLfI, mLsW, mRsI, mRsL, mRsR, mRsV, mRfI, mRsW, mVsI, mVsL, mVsR, mVsV, mVfI, mVsW, e40, e47, c3]
            · exact keep q c _ (by simp [mIsI, mIsL, mIsR, mIsV, mIfI, mIsW, mLsI, mLsL, mLsR, mLsV, mLfI, mLsW, mRsI, mRsL, mRsR, mRsV, mRfI, mRsW, mVsI, mVsL, mVsR, mVsV, mVfI, mVsW]) (by simp [mIsI, mIsL, mIsR, mIsV, mIfI, mIsW, mLsI, mLsL, mLsR, mLsV, mLfI, mLsW, mRsI, mRsL, mRsR, mRsV, mRfI, mRsW, mVsI, mVsL, mVsR, mVsV, mVfI, mVsW, c]) (by simp [mIsI, mIsL, mIsR, mIsV, mIfI, mIsW, mLsI, mLsL, mLsR, mLsV, mLfI, mLsW, mRsI, mRsL, mRsR, mRsV, mRfI, mRsW, mVsI, mVsL, mVsR, mVsV, mVfI, mVsW])
      · simp only [c1, if_false, if_true]
        exact hno (by simp [wlk, c1]) (by simp [sty, c1])
    · simp only [c0, if_false]
      exact hno (by simp [wlk, c0]) (by simp [sty, c0])) (fun s hs => by
    obtain ⟨τ, rfl, a1, a2⟩ := hs
    have e20 : mI τ 30 0 20 = nI N := by rw [a1.I 30 0 20]; exact h20
    refine ⟨(nI (fb_ct (wlk σ d) N), τ), ?_, rfl, a1, a2⟩
    simp only [kM_next_s74, e20, nle (Nat.le_refl N), if_true]) (s := (0, 0, σ)) ⟨σ, rfl, Fx.rf, fun q => by simp⟩
  rw [a]
  obtain ⟨y1, y2⟩ := y
  exact ⟨y2, by rw [← b1], b2, b3⟩
end MLOOP
