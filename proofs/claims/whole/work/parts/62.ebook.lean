theorem INV'.bk {σ σ' : Mem} {N d P P' R : Nat} (hI : INV' σ N d P R) (g : ∀ t i k, t ∉ [21, 40, 43, 44, 48, 8, 9, 10, 12, 13, 18, 19, 51, 53, 54, 55, 56, 63, 64] → (t, k) ∉ [(1, 7), (30, 0), (7, 4), (11, 5), (30, 22)] → mI σ' t i k = mI σ t i k ∧ mL σ' t i k = mL σ t i k ∧ mR σ' t i k = mR σ t i k) (v : ∀ t i, mV σ' t i = mV σ t i)
    (hB : BI σ' N) (h17 : mI σ' 1 0 7 = nI P') (hP1 : d ≤ P') (hP2 : P' ≤ P) (hW : ∀ n, d ≤ n → n < P' → WLi σ' n N = WLi σ n N) : INV' σ' N d P' R := by
  obtain ⟨i1, i2, i3, i4, i5, i6, i7, i8⟩ := hI
  have h : Fx [21, 40, 43, 44, 48, 8, 9, 10, 12, 13, 18, 19, 51, 53, 54, 55, 56, 63, 64] [(1, 7), (30, 0), (7, 4), (11, 5), (30, 22)] σ σ' := ⟨g, v⟩
  refine ⟨HI.fx h rfl i1, hB, ?_, ?_, ?_, ?_, TI.fx h rfl rfl i7, ?_⟩
  · unfold DI at i3 ⊢
    rw [h.sI_ (t := 1) (k := 5) 0 rfl, h.sI_ (t := 30) (k := 8) 0 rfl, h.sI_ (t := 1) (k := 6) 0 rfl, h.sI_ (t := 30) (k := 9) 0 rfl]
    exact i3
  · exact HS_eq (fun q n _ _ => h.hI (ts := [22]) rfl 22 q n) (fun q n _ => h.hI (ts := [49]) rfl 49 0 _) (fun f hf => NV_eq (hvS_fx h rfl) (fun q _ => by unfold wq; rw [h.I 41 0 q]) hf) i4
  · refine ⟨h17, hP1, by have := i5.2.2.1; omega, fun n h1 h2 q hq => ?_⟩
    rw [h.hI (ts := [22]) rfl 22 q n, PS_cong (n - d) (fun n' a b => ⟨hvN_fx h rfl n', hW n' a (by omega)⟩) (fun _ q => by unfold hist; rw [h.hI (ts := [49]) rfl 49 0])]
    exact i5.2.2.2 n h1 (by omega) q hq
  · intro q hq
    rw [h.hI (ts := [46]) rfl 46 0 q, h.hI (ts := [47]) rfl 47 0 q, (had_eq (fun n _ => h.hI (ts := [22]) rfl 22 q n)).1, (had_eq (fun n _ => h.hI (ts := [22]) rfl 22 q n)).2]
    exact i6 q hq
  · unfold LV
    rw [v, v, v]
    exact i8
theorem WLi_q {σ σ' : Mem} {q n : Nat} (h : ∀ q', q' ≠ q → mI σ' 40 0 q' = mI σ 40 0 q' ∧ mI σ' 41 0 q' = mI σ 41 0 q' ∧ mI σ' 43 0 q' = mI σ 43 0 q' ∧ mI σ' 44 0 q' = mI σ 44 0 q') (h1 : wnt σ q n = false) (h2 : wnt σ' q n = false) (i : Nat) : WLi σ' n i = WLi σ n i := by
  induction i with
  | zero => rfl
  | succ i ih =>
    show WLi σ' n i ++ _ = WLi σ n i ++ _
    rw [ih]
    by_cases e : i = q
    · have g1 : ¬ wnt σ i n = true := by rw [e, h1]; decide
      have g2 : ¬ wnt σ' i n = true := by rw [e, h2]; decide
      rw [if_neg g1, if_neg g2]
    · obtain ⟨a, b, c, f⟩ := h i e
      unfold wnt pe wq
      rw [a, b, c, f]
theorem wnt_lt {σ : Mem} {q n f : Nat} (hf : mI σ 43 0 q = nI f) (hf2 : f < 2 ^ 31) (h : n < f) : wnt σ q n = false := by
  cases e : wnt σ q n with
  | false => rfl
  | true =>
    have := (wnt_iff.mp e).2.1
    rw [hf] at this
    exact absurd this (nge h)
theorem setState_ok {σ : Mem} {N d P R q v : Nat} (hI : INV' σ N d P R) (hq : q < N) (hv : v < 8) : ∃ f, mI σ 43 0 q = nI f ∧ kG_setState σ q (nI v) = some ((), sI (sI σ 21 q 3 (nI v)) 1 0 7 (nI (max d (min P f)))) ∧
    ∀ w : Int32, INV' (sI (sI (sI (sI σ 21 q 3 (nI v)) 1 0 7 (nI (max d (min P f)))) 30 0 0 w) 40 0 q (nI v)) N d (max d (min P f)) R := by
  have hB := hI.2.1
  obtain ⟨d1, d2, d3, -⟩ := hI.2.2.1
  obtain ⟨p1, p2, p3, p4⟩ := hI.2.2.2.2.1
  obtain ⟨b0, b1, b2, ⟨f, b, hfb, hb60, ef, eb⟩, c0, c1, c2, c3, c4, c5, c6⟩ := hB.2.2.2.1 q hq
  refine ⟨f, ef, ?_, fun w => ?_⟩
  · unfold kG_setState
    have e4 : mI (sI σ 21 q 3 (nI v)) 21 q 4 = nI f := by rw [mIsI, if_neg (by omega), c4, ef]
    rw [e4, replanN (d := d) (P := P) (by rw [mIsI, if_neg (by omega)]; exact d2) (by rw [mIsI, if_neg (by omega)]; exact p1) p2 p3 (by omega)]
    rfl
  · refine INV'.bk hI (fun t i k g1 g2 => ?_) (fun t i => rfl) ?_ (by simp [mIsI, mIsL, mIsR, mIsV, mIfI, mIsW, mLsI, mLsL, mLsR, mLsV, mLfI, mLsW, mRsI, mRsL, mRsR, mRsV, mRfI, mRsW, mVsI, mVsL, mVsR, mVsV, mVfI, mVsW]) (by omega) (by omega) (fun n h1 h2 => ?_)
    · simp only [List.mem_cons, List.not_mem_nil, or_false, not_or, Prod.mk.injEq, not_and] at g1 g2
      refine ⟨?_, rfl, rfl⟩
      rw [mIsI, if_neg (fun z => g1.2.1 z.1), mIsI, if_neg (fun z => g2.2.1 z.1 z.2.2), mIsI, if_neg (fun z => g2.1 z.1 z.2.2), mIsI, if_neg (fun z => g1.1 z.1)]
    · obtain ⟨a1, a2, a3, a4, a5⟩ := hB
      refine ⟨a1, by simp [mIsI, mIsL, mIsR, mIsV, mIfI, mIsW, mLsI, mLsL, mLsR, mLsV, mLfI, mLsW, mRsI, mRsL, mRsR, mRsV, mRfI, mRsW, mVsI, mVsL, mVsR, mVsV, mVfI, mVsW]; exact a2, by simp [mIsI, mIsL, mIsR, mIsV, mIfI, mIsW, mLsI, mLsL, mLsR, mLsV, mLfI, mLsW, mRsI, mRsL, mRsR, mRsV, mRfI, mRsW, mVsI, mVsL, mVsR, mVsV, mVfI, mVsW]; exact a3, fun q' hq' => ?_, a5⟩
      obtain ⟨x0, x1, x2, x3, y0, y1, y2, y3, y4, y5, y6⟩ := a4 q' hq'
      unfold BIq
      by_cases e : q' = q
      · subst e
        simp [mIsI, mIsL, mIsR, mIsV, mIfI, mIsW, mLsI, mLsL, mLsR, mLsV, mLfI, mLsW, mRsI, mRsL, mRsR, mRsV, mRfI, mRsW, mVsI, mVsL, mVsR, mVsV, mVfI, mVsW]
        exact ⟨x0, x1, ⟨v, hv, rfl⟩, x3, y0, y1, y2, y4, y5, y6⟩
      · simp [mIsI, mIsL, mIsR, mIsV, mIfI, mIsW, mLsI, mLsL, mLsR, mLsV, mLfI, mLsW, mRsI, mRsL, mRsR, mRsV, mRfI, mRsW, mVsI, mVsL, mVsR, mVsV, mVfI, mVsW, e]
        exact ⟨x0, x1, x2, x3, y0, y1, y2, y3, y4, y5, y6⟩
    · have hnf : n < f := by omega
      refine WLi_q (q := q) (fun q' hne => by simp [mIsI, mIsL, mIsR, mIsV, mIfI, mIsW, mLsI, mLsL, mLsR, mLsV, mLfI, mLsW, mRsI, mRsL, mRsR, mRsV, mRfI, mRsW, mVsI, mVsL, mVsR, mVsV, mVfI, mVsW, hne]) (wnt_lt ef (by omega) hnf) (wnt_lt (f := f) (by simp [mIsI, mIsL, mIsR, mIsV, mIfI, mIsW, mLsI, mLsL, mLsR, mLsV, mLfI, mLsW, mRsI, mRsL, mRsR, mRsV, mRfI, mRsW, mVsI, mVsL, mVsR, mVsV, mVfI, mVsW]; exact ef) (by omega) hnf) N
theorem mIs_in {τ : Mem} {N q : Nat} (h : mI τ 30 0 20 = nI N) (hN : N ≤ 40) (hq : q < N) : kM_is τ (nI q) = some (1, τ) := by
  unfold kM_is
  rw [if_neg nn0, h, if_neg (nge hq)]
theorem mIs_out {τ : Mem} {N : Nat} {x : Int32} (h : mI τ 30 0 20 = nI N) (ho : x < 0 ∨ nI N ≤ x) : kM_is τ x = some (0, τ) := by
  unfold kM_is
  by_cases h0 : x < 0
  · rw [if_pos h0]
  · rw [if_neg h0, h, if_pos (ho.resolve_left h0)]
theorem isAhead_in {σ : Mem} {N q : Nat} (hB : BI σ N) (hq : q < N) : kQ_isAhead σ q = some (if mI σ 40 0 q ≤ 1 then 1 else 0, σ) := by
  obtain ⟨-, -, ⟨s, hs, es⟩, -, -, -, -, e3, -⟩ := hB.2.2.2.1 q hq
  obtain ⟨-, c2, c3, -, -, c6, -⟩ := st8 s hs
  unfold kQ_isAhead
  rw [e3, es]
  simp only [c2, c3, c6]
  rcases (show s = 0 ∨ s = 1 ∨ 2 ≤ s by omega) with rfl | rfl | h
  · rfl
  · rfl
  · rw [if_neg (by omega), if_neg (by omega), if_neg (by omega)]
theorem mMade_in {τ : Mem} {N q : Nat} (h : mI τ 30 0 20 = nI N) (hN : N ≤ 40) (hq : q < N) : kM_isMade τ (nI q) = some (if mI τ 40 0 q ≤ 1 then 1 else 0, τ) := by
  unfold kM_isMade
  simp only [mIs_in h hN hq, Option.bind_some, show ¬ ((1 : Int32) = 0) by decide, if_false, inr_ (show q < 40 by omega), if_true, ix_ (show q < 2 ^ 31 by omega)]
  by_cases c : 1 < mI τ 40 0 q
  · rw [if_pos c, if_neg (Int32.not_le.mpr c)]
  · rw [if_neg c, if_pos (Int32.not_lt.mp c)]
theorem mMade_out {τ : Mem} {N : Nat} {x : Int32} (h : mI τ 30 0 20 = nI N) (ho : x < 0 ∨ nI N ≤ x) : kM_isMade τ x = some (0, τ) := by
  unfold kM_isMade
  rw [mIs_out h ho]
  rfl
theorem E_firm {σ : Mem} {x1 : Int32} (hI : INV σ) : EQ2 (fun σ => kG_firm σ x1) (fun σ => kM_firm σ x1) σ := by
  obtain ⟨N, d, P, R, hI⟩ := hI
  have hB := hI.2.1
  have hN := hB.1
  have hno : kG_firm σ x1 = some (0, σ) → kM_firm σ x1 = some (0, sI σ 30 0 0 0) → EQ2 (fun σ => kG_firm σ x1) (fun σ => kM_firm σ x1) σ := fun a b => ⟨0, σ, _, a, b, N, d, P, R, hI.thr⟩
  have z20 : mI (sI σ 30 0 0 0) 30 0 20 = nI N := hB.2.2.1
  have out : (x1 < 0 ∨ nI N ≤ x1) → EQ2 (fun σ => kG_firm σ x1) (fun σ => kM_firm σ x1) σ := fun ho => by
    refine hno ?_ ?_
    · unfold kG_firm; rw [at_out hB ho]; rfl
    · unfold kM_firm; rw [mIs_out z20 ho]; rfl
  rcases i32 x1 N with ho | ho | ⟨q, hq, rfl⟩
  · exact out (Or.inl ho)
  · exact out (Or.inr ho)
  · have e3 := (hB.2.2.2.1 q hq).2.2.2.2.2.2.2.1
    have z40 : mI (sI σ 30 0 0 0) 40 0 q = mI σ 40 0 q := rfl
    by_cases c : mI σ 40 0 q = 0
    · obtain ⟨f, ef, s1, s2⟩ := setState_ok (v := 1) hI hq (by omega)
      obtain ⟨σ1, hσ1⟩ : ∃ σ1, σ1 = sI (sI σ 21 q 3 (nI 1)) 1 0 7 (nI (max d (min P f))) := ⟨_, rfl⟩
      rw [← hσ1] at s1
      have y20 : mI (sI σ1 30 0 0 0) 30 0 20 = nI N := by rw [hσ1]; simp [mIsI, mIsL, mIsR, mIsV, mIfI, mIsW, mLsI, mLsL, mLsR, mLsV, mLfI, mLsW, mRsI, mRsL, mRsR, mRsV, mRfI, mRsW, mVsI, mVsL, mVsR, mVsV, mVfI, mVsW]; exact hB.2.2.1
      have y40 : mI (sI σ1 30 0 0 0) 40 0 q = 0 := by rw [hσ1]; simp [mIsI, mIsL, mIsR, mIsV, mIfI, mIsW, mLsI, mLsL, mLsR, mLsV, mLfI, mLsW, mRsI, mRsL, mRsR, mRsV, mRfI, mRsW, mVsI, mVsL, mVsR, mVsV, mVfI, mVsW]; exact c
      refine ⟨1, σ1, sI (sI σ1 30 0 0 0) 40 0 q 1, ?_, ?_, N, d, _, R, by rw [hσ1]; exact s2 0⟩
      · show kG_firm σ (nI q) = _
        unfold kG_firm
        simp only [at_in hB hq, Option.bind_some, Option.elim_some, e3, c, if_true, show kG_setState σ q 1 = some ((), σ1) from s1]
      · show kM_firm σ1 (nI q) = _
        unfold kM_firm
        simp only [mIs_in y20 hN hq, Option.bind_some, show ¬ ((1 : Int32) = 0) by decide, if_false, inr_ (show q < 40 by omega), if_true, ix_ (show q < 2 ^ 31 by omega), y40]
    · refine hno ?_ ?_
      · unfold kG_firm
        simp only [at_in hB hq, Option.bind_some, Option.elim_some, e3, c, if_false]
      · unfold kM_firm
        simp only [mIs_in z20 hN hq, Option.bind_some, show ¬ ((1 : Int32) = 0) by decide, if_false, inr_ (show q < 40 by omega), if_true, ix_ (show q < 2 ^ 31 by omega), z40, c]
theorem E_cancel {σ : Mem} {x1 : Int32} (hI : INV σ) : EQ2 (fun σ => kG_cancel σ x1) (fun σ => kM_cancel σ x1) σ := by
  obtain ⟨N, d, P, R, hI⟩ := hI
  have hB := hI.2.1
  have hN := hB.1
  have hno : kG_cancel σ x1 = some (0, σ) → kM_cancel σ x1 = some (0, sI σ 30 0 0 0) → EQ2 (fun σ => kG_cancel σ x1) (fun σ => kM_cancel σ x1) σ := fun a b => ⟨0, σ, _, a, b, N, d, P, R, hI.thr⟩
  have z20 : mI (sI σ 30 0 0 0) 30 0 20 = nI N := hB.2.2.1
  have out : (x1 < 0 ∨ nI N ≤ x1) → EQ2 (fun σ => kG_cancel σ x1) (fun σ => kM_cancel σ x1) σ := fun ho => by
    refine hno ?_ ?_
    · unfold kG_cancel; rw [at_out hB ho]; rfl
    · unfold kM_cancel; rw [mMade_out z20 ho]; rfl
  rcases i32 x1 N with ho | ho | ⟨q, hq, rfl⟩
  · exact out (Or.inl ho)
  · exact out (Or.inr ho)
  · have z40 : mI (sI σ 30 0 0 0) 40 0 q = mI σ 40 0 q := rfl
    by_cases c : mI σ 40 0 q ≤ 1
    · obtain ⟨f, ef, s1, s2⟩ := setState_ok (v := 4) hI hq (by omega)
      obtain ⟨σ1, hσ1⟩ : ∃ σ1, σ1 = sI (sI σ 21 q 3 (nI 4)) 1 0 7 (nI (max d (min P f))) := ⟨_, rfl⟩
      rw [← hσ1] at s1
      have y20 : mI (sI σ1 30 0 0 0) 30 0 20 = nI N := by rw [hσ1]; simp [mIsI, mIsL, mIsR, mIsV, mIfI, mIsW, mLsI, mLsL, mLsR, mLsV, mLfI, mLsW, mRsI, mRsL, mRsR, mRsV, mRfI, mRsW, mVsI, mVsL, mVsR, mVsV, mVfI, mVsW]; exact hB.2.2.1
      have y40 : mI (sI σ1 30 0 0 0) 40 0 q ≤ 1 := by rw [hσ1]; simp [mIsI, mIsL, mIsR, mIsV, mIfI, mIsW, mLsI, mLsL, mLsR, mLsV, mLfI, mLsW, mRsI, mRsL, mRsR, mRsV, mRfI, mRsW, mVsI, mVsL, mVsR, mVsV, mVfI, mVsW]; exact c
      refine ⟨1, σ1, sI (sI σ1 30 0 0 0) 40 0 q 4, ?_, ?_, N, d, _, R, by rw [hσ1]; exact s2 0⟩
      · show kG_cancel σ (nI q) = _
        unfold kG_cancel
        simp only [at_in hB hq, Option.bind_some, Option.elim_some, isAhead_in hB hq, c, if_true, show ¬ ((1 : Int32) = 0) by decide, if_false, show kG_setState σ q 4 = some ((), σ1) from s1]
      · show kM_cancel σ1 (nI q) = _
        unfold kM_cancel
        simp only [mMade_in y20 hN hq, y40, Option.bind_some, show ¬ ((1 : Int32) = 0) by decide, if_false, inr_ (show q < 40 by omega), if_true, ix_ (show q < 2 ^ 31 by omega)]
    · refine hno ?_ ?_
      · unfold kG_cancel
        simp only [at_in hB hq, Option.bind_some, Option.elim_some, isAhead_in hB hq, c, if_false, if_true]
      · unfold kM_cancel
        simp only [mMade_in z20 hN hq, z40, c, Option.bind_some, if_false, if_true]
theorem E_come {σ : Mem} {x1 : Int32} (hI : INV σ) : EQ2 (fun σ => kG_come σ x1) (fun σ => kM_come σ x1) σ := by
  obtain ⟨N, d, P, R, hI⟩ := hI
  have hB := hI.2.1
  have hN := hB.1
  obtain ⟨d1, d2, d3, -⟩ := hI.2.2.1
  have hno : kG_come σ x1 = some (0, σ) → kM_come σ x1 = some (0, sI σ 30 0 0 0) → EQ2 (fun σ => kG_come σ x1) (fun σ => kM_come σ x1) σ := fun a b => ⟨0, σ, _, a, b, N, d, P, R, hI.thr⟩
  have z20 : mI (sI σ 30 0 0 0) 30 0 20 = nI N := hB.2.2.1
  have out : (x1 < 0 ∨ nI N ≤ x1) → EQ2 (fun σ => kG_come σ x1) (fun σ => kM_come σ x1) σ := fun ho => by
    refine hno ?_ ?_
    · unfold kG_come; rw [at_out hB ho]; rfl
    · unfold kM_come; rw [mMade_out z20 ho]; rfl
  rcases i32 x1 N with ho | ho | ⟨q, hq, rfl⟩
  · exact out (Or.inl ho)
  · exact out (Or.inr ho)
  · have z40 : mI (sI σ 30 0 0 0) 40 0 q = mI σ 40 0 q := rfl
    have z43 : mI (sI σ 30 0 0 0) 43 0 q = mI σ 43 0 q := rfl
    have z8 : mI (sI σ 30 0 0 0) 30 0 8 = nI d := d3
    have e4 := (hB.2.2.2.1 q hq).2.2.2.2.2.2.2.2.1
    by_cases c : mI σ 40 0 q ≤ 1
    · by_cases c2 : mI σ 43 0 q = nI d
      · obtain ⟨f, ef, s1, s2⟩ := setState_ok (v := 2) hI hq (by omega)
        obtain ⟨σ1, hσ1⟩ : ∃ σ1, σ1 = sI (sI σ 21 q 3 (nI 2)) 1 0 7 (nI (max d (min P f))) := ⟨_, rfl⟩
        rw [← hσ1] at s1
        have y20 : mI (sI σ1 30 0 0 0) 30 0 20 = nI N := by rw [hσ1]; simp [mIsI, mIsL, mIsR, mIsV, mIfI, mIsW, mLsI, mLsL, mLsR, mLsV, mLfI, mLsW, mRsI, mRsL, mRsR, mRsV, mRfI, mRsW, mVsI, mVsL, mVsR, mVsV, mVfI, mVsW]; exact hB.2.2.1
        have y40 : mI (sI σ1 30 0 0 0) 40 0 q ≤ 1 := by rw [hσ1]; simp [mIsI, mIsL, mIsR, mIsV, mIfI, mIsW, mLsI, mLsL, mLsR, mLsV, mLfI, mLsW, mRsI, mRsL, mRsR, mRsV, mRfI, mRsW, mVsI, mVsL, mVsR, mVsV, mVfI, mVsW]; exact c
        have y43 : mI (sI σ1 30 0 0 0) 43 0 q = nI d := by rw [hσ1]; simp [mIsI, mIsL, mIsR, mIsV, mIfI, mIsW, mLsI, mLsL, mLsR, mLsV, mLfI, mLsW, mRsI, mRsL, mRsR, mRsV, mRfI, mRsW, mVsI, mVsL, mVsR, mVsV, mVfI, mVsW]; exact c2
        have y8 : mI (sI σ1 30 0 0 0) 30 0 8 = nI d := by rw [hσ1]; simp [mIsI, mIsL, mIsR, mIsV, mIfI, mIsW, mLsI, mLsL, mLsR, mLsV, mLfI, mLsW, mRsI, mRsL, mRsR, mRsV, mRfI, mRsW, mVsI, mVsL, mVsR, mVsV, mVfI, mVsW]; exact d3
        refine ⟨1, σ1, sI (sI σ1 30 0 0 0) 40 0 q 2, ?_, ?_, N, d, _, R, by rw [hσ1]; exact s2 0⟩
        · show kG_come σ (nI q) = _
          unfold kG_come
          simp only [at_in hB hq, Option.bind_some, Option.elim_some, isAhead_in hB hq, c, if_true, show ¬ ((1 : Int32) = 0) by decide, if_false, e4, c2, d2, show kG_setState σ q 2 = some ((), σ1) from s1]
        · show kM_come σ1 (nI q) = _
          unfold kM_come
          simp only [mMade_in y20 hN hq, y40, Option.bind_some, show ¬ ((1 : Int32) = 0) by decide, if_false, inr_ (show q < 40 by omega), if_true, ix_ (show q < 2 ^ 31 by omega), y43, y8]
      · refine hno ?_ ?_
        · unfold kG_come
          simp only [at_in hB hq, Option.bind_some, Option.elim_some, isAhead_in hB hq, c, if_true, show ¬ ((1 : Int32) = 0) by decide, if_false, e4, d2, c2]
        · unfold kM_come
          simp only [mMade_in z20 hN hq, z40, c, Option.bind_some, show ¬ ((1 : Int32) = 0) by decide, if_false, inr_ (show q < 40 by omega), if_true, ix_ (show q < 2 ^ 31 by omega), z43, z8, c2]
    · refine hno ?_ ?_
      · unfold kG_come
        simp only [at_in hB hq, Option.bind_some, Option.elim_some, isAhead_in hB hq, c, if_false, if_true]
      · unfold kM_come
        simp only [mMade_in z20 hN hq, z40, c, Option.bind_some, if_false, if_true]
theorem E_change {σ : Mem} {x1 x2 x3 : Int32} (hI : INV σ) : EQ2 (fun σ => kG_change σ x1 x2 x3) (fun σ => kM_change σ x1 x2 x3) σ := by
  obtain ⟨N, d, P, R, hI⟩ := hI
  have hB := hI.2.1
  have hN := hB.1
  have hT := hI.2.2.2.2.2.2.1
  obtain ⟨d1, d2, d3, -⟩ := hI.2.2.1
  obtain ⟨p1, p2, p3, p4⟩ := hI.2.2.2.2.1
  have z20 : mI (sI σ 30 0 0 0) 30 0 20 = nI N := hB.2.2.1
  have out : (x1 < 0 ∨ nI N ≤ x1) → EQ2 (fun σ => kG_change σ x1 x2 x3) (fun σ => kM_change σ x1 x2 x3) σ := fun ho => by
    refine ⟨6, σ, sI σ 30 0 0 0, ?_, ?_, N, d, P, R, hI.thr⟩
    · show kG_change σ x1 x2 x3 = _
      unfold kG_change; rw [at_out hB ho]; rfl
    · show kM_change σ x1 x2 x3 = _
      unfold kM_change; rw [mMade_out z20 ho]; rfl
  rcases i32 x1 N with ho | ho | ⟨q, hq, rfl⟩
  · exact out (Or.inl ho)
  · exact out (Or.inr ho)
  · obtain ⟨b0, ⟨w, hw, ew⟩, b2, ⟨f, b', hfb, hb60, ef, eb⟩, c0, c1, c2, c3, c4, c5, c6⟩ := hB.2.2.2.1 q hq
    by_cases c : mI σ 40 0 q ≤ 1
    · obtain ⟨cc, hcc, ⟨σ1, k1, k2⟩, k3, hm⟩ := why_ok (x1 := mI σ 41 0 q) (x2 := mI σ 42 0 q) (x3 := x2) (x4 := x3) (but := nI q) hI
      have hbut : ¬ (nI q = -1 ∧ N = 40) := fun z => nm512 q (by omega) z.1
      rw [if_neg hbut] at k1
      have hst : kG_change σ (nI q) x2 x3 = (kG_refusalOf σ (mI σ 41 0 q) (mI σ 42 0 q) x2 x3 (nI q)).bind (fun x => (fun (r6 : Int32) (σ7 : Mem) =>
          if r6 = 0 then
            (kG_replanFrom σ7 (mI σ7 21 q 4)).bind (fun x => (fun (_ : Unit) (σ9 : Mem) =>
            (kG_replanFrom σ9 x2).bind (fun x => (fun (_ : Unit) (σ11 : Mem) =>
            (kT_leastCost σ11 (mI σ11 21 q 0) x2 x3 (mI σ11 1 0 5)).bind (fun x => (fun (r12 : Int64) (σ13 : Mem) =>
            (kQ_setNights σ13 q x2 x3 r12).bind (fun x => (fun (_ : Unit) (σ15 : Mem) =>
            some (0, σ15)) x.1 x.2)) x.1 x.2)) x.1 x.2)) x.1 x.2)
          else
            some (r6, σ7)) x.1 x.2) := by
        unfold kG_change
        simp only [at_in hB hq, Option.bind_some, Option.elim_some, isAhead_in hB hq, c, if_true, show ¬ ((1 : Int32) = 0) by decide, if_false, c0, c1]
      have hmst : ∀ τ, Fx [8, 9, 10, 18, 19, 21] [(7, 4), (1, 7), (30, 0)] σ τ → kM_isMade τ (nI q) = some (1, τ) := fun τ hF => by
        rw [mMade_in (by rw [hF.I 30 0 20]; exact hB.2.2.1) hN hq, hF.I 40 0 q, if_pos c]
      by_cases e0 : cc = 0
      · subst e0
        obtain ⟨w', a, b, e1, rfl, rfl, hw', ha, hab, hb⟩ := k3 rfl
        obtain rfl : w = w' := by rw [ew] at e1; exact (nI_eq (by omega) (by omega)).mp e1
        have r21 : mI σ1 21 q 4 = nI f := by rw [k2.I 21 q 4, c4, ef]
        have R1 := replanN (σ := σ1) (d := d) (P := P) (n := f) (by rw [k2.I 1 0 5]; exact d2) (by rw [k2.I 1 0 7]; exact p1) p2 p3 (by omega)
        obtain ⟨P1, hP1⟩ : ∃ P1, P1 = max d (min P f) := ⟨_, rfl⟩
        rw [← hP1] at R1
        have R2 := replanN (σ := sI σ1 1 0 7 (nI P1)) (d := d) (P := P1) (n := a) (by rw [mIsI, if_neg (by omega), k2.I 1 0 5]; exact d2) (by rw [mIsI, if_pos ⟨rfl, rfl, rfl⟩]) (by omega) (by omega) (by omega)
        obtain ⟨P2, hP2⟩ : ∃ P2, P2 = max d (min P1 a) := ⟨_, rfl⟩
        rw [← hP2] at R2
        obtain ⟨τ, hτ⟩ : ∃ τ, τ = sI (sI σ1 1 0 7 (nI P1)) 1 0 7 (nI P2) := ⟨_, rfl⟩
        rw [← hτ] at R2
        have hFt : Fx [8, 9, 10, 18, 19] [(7, 4), (1, 7)] σ τ := by
          rw [hτ]
          exact ((k2.wk (l' := [8, 9, 10, 18, 19]) (m' := [(7, 4), (1, 7)]) rfl rfl).sI).sI
        obtain ⟨τ1, t1, t2⟩ := leastCost_ok (d := d) (TI.fx hFt rfl rfl hT) hw ha hab hb
        rw [lst_fx hFt rfl] at t1
        have hF1 : Fx [8, 9, 10, 18, 19] [(7, 4), (1, 7)] σ τ1 := hFt.tr (t2.wk rfl rfl)
        obtain ⟨σ3, hσ3⟩ : ∃ σ3, σ3 = sL (sI (sI τ1 21 q 4 (nI a)) 21 q 5 (nI b)) 21 q 6 (ec (lst σ R d w a b)) := ⟨_, rfl⟩
        have hcl : kG_change σ (nI q) (nI a) (nI b) = some (0, σ3) := by
          rw [hst, k1]
          have r210 : mI τ 21 q 0 = nI w := by rw [hFt.I 21 q 0, c0, ew]
          have r15 : mI τ 1 0 5 = nI d := by rw [hFt.I 1 0 5]; exact d2
          simp only [if_true, Option.bind_some, r21, R1, R2, r210, r15, t1, kQ_setNights, ← hσ3]
        have hF3 : Fx [8, 9, 10, 18, 19, 21] [(7, 4), (1, 7), (30, 0)] σ (sI σ3 30 0 0 0) := by
          rw [hσ3]
          exact ((((hF1.wk (l' := [8, 9, 10, 18, 19, 21]) (m' := [(7, 4), (1, 7), (30, 0)]) rfl rfl).sI).sI).sL).sI
        obtain ⟨σ4, m1, m2, m3⟩ := hm _ (SMd.fx hI hF3 rfl rfl rfl rfl)
        have m3 := m3 rfl w a b ew rfl rfl hw hab hb
        have n41 : mI (sI σ3 30 0 0 0) 41 0 q = mI σ 41 0 q := hF3.I 41 0 q
        have n42 : mI (sI σ3 30 0 0 0) 42 0 q = mI σ 42 0 q := hF3.I 42 0 q
        obtain ⟨σ5, hσ5⟩ : ∃ σ5, σ5 = sL (sI (sI σ4 43 0 q (nI a)) 44 0 q (nI b)) 48 0 q (ec (lst σ R d w a b)) := ⟨_, rfl⟩
        refine ⟨0, σ3, σ5, hcl, ?_, N, d, P2, R, ?_⟩
        · show kM_change σ3 (nI q) (nI a) (nI b) = _
          unfold kM_change
          have n63 : mL (sI (sI σ4 43 0 q (nI a)) 44 0 q (nI b)) 63 0 b = ec (lst σ R d w a b) := by rw [mLsI, mLsI]; exact m3
          simp only [hmst _ hF3, Option.bind_some, show ¬ ((1 : Int32) = 0) by decide, if_false, inr_ (show q < 40 by omega), if_true, ix_ (show q < 2 ^ 31 by omega), n41, n42, m1, show nI 0 ≤ 0 by decide, inr_ (show b < 61 by omega), ix_ (show b < 2 ^ 31 by omega), n63, ← hσ5]
        · have hF4 : Fx [8, 9, 10, 18, 19, 21, 51, 54, 63, 64] [(7, 4), (1, 7), (30, 0), (30, 22)] σ σ4 := (hF3.wk (l' := [8, 9, 10, 18, 19, 21, 51, 54, 63, 64]) (m' := [(7, 4), (1, 7), (30, 0), (30, 22)]) rfl rfl).tr (m2.wk rfl rfl)
          have hF5 : Fx [8, 9, 10, 18, 19, 21, 51, 54, 63, 64, 43, 44, 48] [(7, 4), (1, 7), (30, 0), (30, 22)] σ σ5 := by
            rw [hσ5]
            exact (((hF4.wk (l' := [8, 9, 10, 18, 19, 21, 51, 54, 63, 64, 43, 44, 48]) (m' := [(7, 4), (1, 7), (30, 0), (30, 22)]) rfl rfl).sI).sI).sL
          have hF6 := hF5.wk (l' := [21, 40, 43, 44, 48, 8, 9, 10, 12, 13, 18, 19, 51, 53, 54, 55, 56, 63, 64]) (m' := [(1, 7), (30, 0), (7, 4), (11, 5), (30, 22)]) rfl rfl
          -- the class's row of promises at the end
          have v21 : ∀ q' k, mI σ5 21 q' k = if q' = q ∧ k = 4 then nI a else if q' = q ∧ k = 5 then nI b else mI σ 21 q' k := fun q' k => by
            have e1 : mI σ5 21 q' k = mI σ3 21 q' k := by rw [hσ5, mIsL, mIsI, if_neg (by omega), mIsI, if_neg (by omega), m2.I 21 q' k, mIsI, if_neg (by omega)]
            rw [e1, hσ3, mIsL, mIsI, mIsI, hF1.I 21 q' k]
            by_cases x1 : q' = q ∧ k = 5
            · rw [if_pos ⟨rfl, x1⟩, if_neg (by omega), if_pos x1]
            · rw [if_neg (fun z => x1 z.2)]
              by_cases x2 : q' = q ∧ k = 4
              · rw [if_pos ⟨rfl, x2⟩, if_pos x2]
              · rw [if_neg (fun z => x2 z.2), if_neg x2, if_neg x1]
          have v216 : ∀ q', mL σ5 21 q' 6 = if q' = q then ec (lst σ R d w a b) else mL σ 21 q' 6 := fun q' => by
            have e1 : mL σ5 21 q' 6 = mL σ3 21 q' 6 := by rw [hσ5, mLsL, if_neg (by omega), mLsI, mLsI, m2.L 21 q' 6, mLsI]
            rw [e1, hσ3, mLsL, mLsI, mLsI, hF1.L 21 q' 6]
            by_cases x1 : q' = q
            · rw [if_pos ⟨rfl, x1, rfl⟩, if_pos x1]
            · rw [if_neg (fun z => x1 z.2.1), if_neg x1]
          have v43 : ∀ q', mI σ5 43 0 q' = if q' = q then nI a else mI σ 43 0 q' := fun q' => by
            rw [hσ5, mIsL, mIsI, if_neg (by omega), mIsI, hF4.I 43 0 q']
            by_cases x1 : q' = q
            · rw [if_pos ⟨rfl, rfl, x1⟩, if_pos x1]
            · rw [if_neg (fun z => x1 z.2.2), if_neg x1]
          have v44 : ∀ q', mI σ5 44 0 q' = if q' = q then nI b else mI σ 44 0 q' := fun q' => by
            rw [hσ5, mIsL, mIsI, mIsI, if_neg (show ¬ (44 = 43 ∧ 0 = 0 ∧ q' = q) by omega), hF4.I 44 0 q']
            by_cases x1 : q' = q
            · rw [if_pos ⟨rfl, rfl, x1⟩, if_pos x1]
            · rw [if_neg (fun z => x1 z.2.2), if_neg x1]
          have v48 : ∀ q', mL σ5 48 0 q' = if q' = q then ec (lst σ R d w a b) else mL σ 48 0 q' := fun q' => by
            rw [hσ5, mLsL, mLsI, mLsI, hF4.L 48 0 q']
            by_cases x1 : q' = q
            · rw [if_pos ⟨rfl, rfl, x1⟩, if_pos x1]
            · rw [if_neg (fun z => x1 z.2.2), if_neg x1]
          have v40 : ∀ q', mI σ5 40 0 q' = mI σ 40 0 q' := fun q' => hF5.I 40 0 q'
          have v41 : ∀ q', mI σ5 41 0 q' = mI σ 41 0 q' := fun q' => hF5.I 41 0 q'
          have v42 : ∀ q', mI σ5 42 0 q' = mI σ 42 0 q' := fun q' => hF5.I 42 0 q'
          have v45 : ∀ q', mI σ5 45 0 q' = mI σ 45 0 q' := fun q' => hF5.I 45 0 q'
          refine INV'.bk hI (fun t i k g1 g2 => hF6.1 t i k g1 g2) (fun t i => hF6.V t i) ?_ ?_ (by omega) (by omega) (fun n h1 h2 => ?_)
          · obtain ⟨a1, a2, a3, a4, a5⟩ := hB
            refine ⟨a1, by rw [hF5.I 5 0 1]; exact a2, by rw [hF5.I 30 0 20]; exact a3, fun q' hq' => ?_, fun q' hq' => by rw [hF5.V, hF5.V]; exact a5 q' hq'⟩
            obtain ⟨x0, x1, x2, x3, y0, y1, y2, y3, y4, y5, y6⟩ := a4 q' hq'
            unfold BIq
            rw [hF5.R 6 0 q', v40, v41, v42, v43, v44, v45, v48, v21, v21, v21, v21, v21, v21, v216]
            by_cases e : q' = q
            · subst e
              simp
              exact ⟨x0, x1, x2, ⟨a, b, hab, hb, rfl, rfl⟩, y0, y1, y2, y3⟩
            · simp [e]
              exact ⟨x0, x1, x2, x3, y0, y1, y2, y3, y4, y5, y6⟩
          · rw [hσ5, mIsL, mIsI, if_neg (by omega), mIsI, if_neg (by omega), m2.I 1 0 7, mIsI, if_neg (by omega), hσ3, mIsL, mIsI, if_neg (by omega), mIsI, if_neg (by omega), t2.I 1 0 7, hτ, mIsI, if_pos ⟨rfl, rfl, rfl⟩]
          · refine WLi_q (q := q) (fun q' hne => ⟨v40 q', v41 q', by rw [v43, if_neg hne], by rw [v44, if_neg hne]⟩) (wnt_lt ef (by omega) (by omega)) (wnt_lt (f := a) (by rw [v43, if_pos rfl]) (by omega) (by omega)) N
      · rw [if_neg e0] at k1
        have hF : Fx [8, 9, 10, 18, 19] [(7, 4), (30, 0)] σ (sI σ1 30 0 0 0) := (k2.wk (l' := [8, 9, 10, 18, 19]) (m' := [(7, 4), (30, 0)]) rfl rfl).sI
        obtain ⟨σ2, m1, m2, -⟩ := hm _ (SMd.fx hI hF rfl rfl rfl rfl)
        have hne : ¬ nI cc = 0 := nI_ne0 (by omega) (by omega)
        refine ⟨nI cc, σ1, σ2, ?_, ?_, N, d, P, R, (hI.scr (k2.wk (by decide) (by decide))).thr.scr (m2.wk (by decide) (by decide))⟩
        · show kG_change σ (nI q) x2 x3 = _
          rw [hst, k1]
          simp only [Option.bind_some, hne, if_false]
        · show kM_change σ1 (nI q) x2 x3 = _
          unfold kM_change
          have n41 : mI (sI σ1 30 0 0 0) 41 0 q = mI σ 41 0 q := hF.I 41 0 q
          have n42 : mI (sI σ1 30 0 0 0) 42 0 q = mI σ 42 0 q := hF.I 42 0 q
          simp only [hmst _ (hF.wk rfl rfl), Option.bind_some, show ¬ ((1 : Int32) = 0) by decide, if_false, inr_ (show q < 40 by omega), if_true, ix_ (show q < 2 ^ 31 by omega), n41, n42, m1, nI_nle (show 0 < cc by omega) (show cc < 2 ^ 31 by omega)]
    · refine ⟨6, σ, sI σ 30 0 0 0, ?_, ?_, N, d, P, R, hI.thr⟩
      · show kG_change σ (nI q) x2 x3 = _
        unfold kG_change
        simp only [at_in hB hq, Option.bind_some, Option.elim_some, isAhead_in hB hq, c, if_false, if_true]
      · show kM_change σ (nI q) x2 x3 = _
        have z40 : mI (sI σ 30 0 0 0) 40 0 q = mI σ 40 0 q := rfl
        unfold kM_change
        simp only [mMade_in z20 hN hq, z40, c, Option.bind_some, if_false, if_true]
