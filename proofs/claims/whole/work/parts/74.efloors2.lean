theorem gfl_start {σ : Mem} {N : Nat} {x1 x2 x3 : Int32} {g : Nat → Option Nat} (hB : BI σ N) (hg : ∀ q f, q < N → g q = some f → f < 10)
    (hs : ∀ q, q < N → ∃ r p j, kQ_spotIn σ q x3 = some (r, σ) ∧ kG_placeOf σ r = some (p, σ) ∧ kH_roomAt σ p = some (j, σ) ∧ (g q = none → j = none) ∧ ∀ f, g q = some f → ∃ i, j = some i ∧ mI σ 20 i 1 = nI f) :
    loopF FU (kG_floors_s15 x2 x3) (0, jmax x1 0, σ) = some (nI (fA g x1 x2 N), σ) := by
  have hN := hB.1
  have hj : jmax x1 0 = if x1 < 0 then 0 else x1 := rfl
  rcases i32 x1 N with h | h | ⟨a, ha, rfl⟩
  · rw [hj, if_pos h]
    exact gfl_loop (lo := 0) hB hg (by omega) (fun q hq => by omega) (fun q _ hq z => absurd (Int32.lt_trans z h) nn0) hs
  · have h0 : ¬ x1 < 0 := fun z => absurd (Int32.lt_of_le_of_lt h z) nn0
    rw [hj, if_neg h0]
    have hlow : fA g x1 x2 N = 0 := fA_low N (fun q hq => Int32.lt_of_lt_of_le (nI_lt hq (by omega)) h)
    obtain ⟨y, l1, l2⟩ := lp_inv (f := kG_floors_s15 x2 x3) (fun i s => s = (0, x1, σ)) (fun y => y = (0, σ)) 0 (by omega) (fun i s hi _ => by omega) (fun s hs' => by
      subst hs'
      by_cases c2 : x2 < x1
      · exact ⟨(0, σ), if_pos c2, rfl⟩
      · exact ⟨(0, σ), (if_neg c2).trans (if_pos (by rw [hB.2.1]; exact h)), rfl⟩) (s := (0, x1, σ)) rfl
    rw [l1, l2, hlow]
    rfl
  · rw [hj, if_neg nn0]
    exact gfl_loop (lo := a) hB hg (by omega) (fun q hq => nI_lt hq (by omega)) (fun q h1 h2 => nI_nlt h1 (by omega)) hs
theorem gfl_run {σ σ1 : Mem} {x1 x2 x3 : Int32} {m : Nat} (a1 : kG_planUpTo σ x3 = some ((), σ1)) (a2 : loopF FU (kG_floors_s15 x2 x3) (0, jmax x1 0, σ1) = some (nI m, σ1)) (hm : m < 1024) : kG_floors σ x1 x2 x3 = some (rs (nI m) 10, σ1) := by
  refine (bnd a1).trans ?_
  show (loopF FU (kG_floors_s15 x2 x3) (0, jmax x1 0, σ1)).bind _ = _
  refine (bnd a2).trans ?_
  show (kJ_bitCount σ1 (nI m)).bind _ = _
  exact (bnd (bc32 hm)).trans rfl
theorem E_floors {σ : Mem} {x1 x2 x3 : Int32} (hI : INV σ) : EQ2 (fun σ => kG_floors σ x1 x2 x3) (fun σ => kM_floors σ x1 x2 x3) σ := by
  obtain ⟨N, d, P, R, hI⟩ := hI
  have hN := hI.2.1.1
  have out : (x3 < 0 ∨ nI 60 ≤ x3) → EQ2 (fun σ => kG_floors σ x1 x2 x3) (fun σ => kM_floors σ x1 x2 x3) σ := fun ho => by
    obtain ⟨σ1, P', a1, a2, a3, -⟩ := both_plan (x := x3) hI
    have hl := gfl_start (x1 := x1) (x2 := x2) (x3 := x3) (g := fun _ => none) a2.2.1 (fun q f _ h => by cases h) (fun q hq => ⟨-1, -1, none, spotIn_out ho, rfl, roomAt_out (Or.inl (by decide)), fun _ => rfl, fun f h => by cases h⟩)
    have h0 : fA (fun _ => none) x1 x2 N = 0 := by
      have key : ∀ k, fA (fun _ => none) x1 x2 k = 0 := fun k => by
        induction k with
        | zero => rfl
        | succ k ih =>
          unfold fA
          rw [ih]
          by_cases c1 : nI k < x1
          · rw [if_pos c1]
          · rw [if_neg c1]
            by_cases c2 : x2 < nI k
            · rw [if_pos c2]
            · rw [if_neg c2]; rfl
      exact key N
    rw [h0] at hl
    refine ⟨0, σ1, sI σ1 30 0 0 0, ?_, ?_, N, d, P', R, a2.thr⟩
    · show kG_floors σ x1 x2 x3 = _
      rw [gfl_run a1 hl (by omega)]
      have : rs (nI 0) 10 = 0 := by decide
      rw [this]
    · show kM_floors σ1 x1 x2 x3 = _
      exact (bnd (mNight_out ho)).trans rfl
  rcases i32 x3 60 with h | h | ⟨n, hn, rfl⟩
  · exact out (Or.inl h)
  · exact out (Or.inr h)
  · obtain ⟨σ1, P', a1, a2, a3, σ2, b1, b2, b3, b4, b5⟩ := both_plan (x := nI n) hI
    obtain ⟨hnv, h49⟩ := b4 n hn
    have h22 := b5 n (a3 n hn (Or.inl rfl)) hn
    have e31 : ∀ k, mI σ2 31 0 k = mI σ1 31 0 k := fun k => by rw [Fx.I b3 31 0 k, mIsI, if_neg (by omega)]
    have e32 : ∀ k, mI σ2 32 0 k = mI σ1 32 0 k := fun k => by rw [Fx.I b3 32 0 k, mIsI, if_neg (by omega)]
    have erm : ∀ p, isRm σ2 p = isRm σ1 p := fun p => by unfold isRm; rw [e31]
    have key : ∀ q, q < N → ∀ s, hist σ2 N n q = some s → s < 512 ∧ isRm σ1 (s / 32) = true ∧ ∃ f, f < 10 ∧ mI σ2 32 0 (s / 32) = nI f ∧ mI σ1 20 (s / 32) 1 = nI f := fun q hq s hs => by
      have hsu := suS_iff.mp (hnv.1 q hq s hs)
      have hr : isRm σ2 (s / 32) = true := hsu.1
      rw [erm] at hr
      obtain ⟨-, -, -, -, -, -, w, -⟩ := a2.1 (s / 32) (by omega)
      obtain ⟨-, w2, -, -, -, -, -, ⟨f, hf, ef⟩, -⟩ := w hr
      exact ⟨hsu.2.1, hr, f, hf, by rw [e32]; exact ef, by rw [w2]; exact ef⟩
    obtain ⟨g, hgd⟩ : ∃ g : Nat → Option Nat, g = fun q => (hist σ2 N n q).map (fun s => ix (mI σ2 32 0 (s / 32))) := ⟨_, rfl⟩
    have hg0 : ∀ q, hist σ2 N n q = none → g q = none := fun q h => by rw [hgd]; simp [h]
    have hg1 : ∀ q s, hist σ2 N n q = some s → g q = some (ix (mI σ2 32 0 (s / 32))) := fun q s h => by rw [hgd]; simp [h]
    have hg : ∀ q f, q < N → g q = some f → f < 10 := fun q f hq hf => by
      cases e : hist σ2 N n q with
      | none => rw [hg0 q e] at hf; cases hf
      | some s =>
        rw [hg1 q s e] at hf
        obtain ⟨-, -, f', h1, h2, -⟩ := key q hq s e
        rw [h2, ix_] at hf
        have := Option.some.inj hf
        omega
    have hl := gfl_start (σ := σ1) (x1 := x1) (x2 := x2) (x3 := nI n) a2.2.1 hg (fun q hq => by
      have h22q := h22 q hq
      rw [h49 q hq] at h22q
      cases e : hist σ2 N n q with
      | none =>
        rw [e] at h22q
        refine ⟨-1, -1, none, by rw [spotIn_in hn, h22q]; rfl, rfl, roomAt_out (Or.inl (by decide)), fun _ => rfl, fun f h => ?_⟩
        rw [hg0 q e] at h
        cases h
      | some s =>
        rw [e] at h22q
        obtain ⟨k1, k2, f', k3, k4, k5⟩ := key q hq s e
        refine ⟨nI s, nI (s / 32), some (s / 32), by rw [spotIn_in hn, h22q]; rfl, ?_, ?_, fun h => ?_, fun f h => ?_⟩
        · unfold kG_placeOf
          rw [(codeI s k1).1]
        · rw [roomAt_in a2.1 (by omega), if_pos k2]
        · rw [hg1 q s e] at h
          cases h
        · rw [hg1 q s e, k4, ix_] at h
          exact ⟨s / 32, rfl, by rw [k5, Option.some.inj h]⟩)
    have hm := mfl_loop (σ := σ2) (x1 := x1) (x2 := x2) (g := g) hN hn b2.2.1.2.2.1 hg (fun q hq => by
      refine ⟨fun h => ?_, fun f h => ?_⟩
      · cases e : hist σ2 N n q with
        | none => rw [h49 q hq, e]; rfl
        | some s => rw [hg1 q s e] at h; cases h
      · cases e : hist σ2 N n q with
        | none => rw [hg0 q e] at h; cases h
        | some s =>
          obtain ⟨k1, k2, f', k3, k4, k5⟩ := key q hq s e
          rw [hg1 q s e, k4, ix_] at h
          exact ⟨s, k1, by rw [h49 q hq, e]; rfl, by rw [k4, Option.some.inj h]⟩)
    refine ⟨rs (nI (fA g x1 x2 N)) 10, σ1, σ2, gfl_run a1 hl (fA_lt hg N (Nat.le_refl N)), ?_, N, d, P', R, b2⟩
    show kM_floors σ1 x1 x2 (nI n) = _
    refine (bnd (mNight_in hn)).trans ?_
    show (kM_plans (sI σ1 30 0 0 0)).bind _ = _
    refine (bnd b1).trans ?_
    show (loopF FU (kM_floors_s24 x1 x2 (nI n)) (0, 0, σ2)).bind _ = _
    refine (bnd hm).trans ?_
    exact (bnd mfl_bits).trans rfl
