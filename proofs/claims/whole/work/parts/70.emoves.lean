theorem nI_ad {a b : Nat} : nI a + nI b = nI (a + b) := (Int32.ofNat_add a b).symm
/-- what both count, night by night -/
def mvs (σ : Mem) (d q : Nat) : Nat := fb_ct (fun j => mvd σ q (d + j)) (60 - d)
theorem gmoves_loop {σ : Mem} {N d : Nat} (hB : BI σ N) (hd : d < 60) (d2 : mI σ 1 0 5 = nI d) : loopF FU kG_moves_s10 (0, 0, σ) = some (nI (fb_sm (mvs σ d) N), σ) := by
  have hN := hB.1
  obtain ⟨y, l1, l2⟩ := lp_inv (f := kG_moves_s10) (fun i s => s = (nI (fb_sm (mvs σ d) i), nI i, σ)) (fun y => y = (nI (fb_sm (mvs σ d) N), σ)) N (by omega) (fun i s hi hs => by
    subst hs
    refine Or.inl ?_
    simp only [kG_moves_s10, hB.2.1, nge hi, if_false, at_in hB hi, Option.bind_some, Option.elim_some, d2, show (60 : Int32) = nI 60 from rfl, movesIn_ok (σ := σ) (q := i) (show d ≤ 60 by omega) (Nat.le_refl 60)]
    refine ⟨_, rfl, ?_⟩
    rw [fb_sm_succ, nI_1, nI_ad]
    rfl) (fun s hs => by
    subst hs
    exact ⟨_, by simp only [kG_moves_s10, hB.2.1, nle (Nat.le_refl N), if_true], rfl⟩) (s := (0, 0, σ)) rfl
  rw [l1, l2]
theorem mmoves_in {σ : Mem} {q d c : Nat} (hq : q < 40) (hd : d < 60) : loopF FU (kM_moves_s26 (nI q)) (nI c, nI d, σ) = some (nI (c + fb_ct (fun j => hmv σ q (d + j)) (60 - d)), σ) := by
  obtain ⟨y, l1, l2⟩ := lp_inv (f := kM_moves_s26 (nI q)) (fun i s => s = (nI (c + fb_ct (fun j => hmv σ q (d + j)) i), nI (d + i), σ)) (fun y => y = (nI (c + fb_ct (fun j => hmv σ q (d + j)) (60 - d)), σ)) (60 - d) (by omega) (fun i s hi hs => by
    subst hs
    refine Or.inl ?_
    simp only [kM_moves_s26, show ¬ (60 : Int32) ≤ nI (d + i) from nge (show d + i < 60 by omega), if_false, hasMoved_in hq (show d + i < 60 by omega), Option.bind_some]
    by_cases e : hmv σ q (d + i) = true
    · simp only [e, if_true, show ¬ ((1 : Int32) = 0) by decide, if_false]
      refine ⟨_, rfl, ?_⟩
      rw [fb_ct_succ, e, nI_1, nI_1]
      rfl
    · simp only [e, if_false, if_true]
      refine ⟨_, rfl, ?_⟩
      rw [fb_ct_succ, if_neg e, nI_1]
      rfl) (fun s hs => by
    subst hs
    refine ⟨_, ?_, rfl⟩
    rw [show d + (60 - d) = 60 by omega]
    simp only [kM_moves_s26, show (60 : Int32) ≤ nI 60 from nle (Nat.le_refl 60), if_true]) (s := (nI c, nI d, σ)) rfl
  rw [l1, l2]
theorem mmoves_loop {σ : Mem} {N d : Nat} (hN : N ≤ 40) (h20 : mI σ 30 0 20 = nI N) (hd : d < 60) (d3 : mI σ 30 0 8 = nI d) : loopF FU kM_moves_s13 (0, 0, σ) = some (nI (fb_sm (fun q => fb_ct (fun j => hmv σ q (d + j)) (60 - d)) N), σ) := by
  obtain ⟨y, l1, l2⟩ := lp_inv (f := kM_moves_s13) (fun i s => s = (nI (fb_sm (fun q => fb_ct (fun j => hmv σ q (d + j)) (60 - d)) i), nI i, σ)) (fun y => y = (nI (fb_sm (fun q => fb_ct (fun j => hmv σ q (d + j)) (60 - d)) N), σ)) N (by omega) (fun i s hi hs => by
    subst hs
    refine Or.inl ?_
    simp only [kM_moves_s13, h20, nge hi, if_false, d3, mmoves_in (show i < 40 by omega) hd, Option.bind_some, kM_moves_x50, nI_1]
    exact ⟨_, rfl, rfl⟩) (fun s hs => by
    subst hs
    exact ⟨_, by simp only [kM_moves_s13, h20, nle (Nat.le_refl N), if_true], rfl⟩) (s := (0, 0, σ)) rfl
  rw [l1, l2]
theorem E_moves {σ : Mem} (hI : INV σ) : EQ2 (fun σ => kG_moves σ) (fun σ => kM_moves σ) σ := by
  obtain ⟨N, d, P, R, hI⟩ := hI
  have hN := hI.2.1.1
  obtain ⟨σ1, P', a1, a2, a3, σ2, b1, b2, b3, b4, b5⟩ := both_plan (x := 59) hI
  have hP : 59 < P' := a3 59 (by omega) (Or.inl rfl)
  obtain ⟨d1, d2, -⟩ := a2.2.2.1
  obtain ⟨-, -, d3, -⟩ := b2.2.2.1
  have c1 := gmoves_loop a2.2.1 d1 d2
  have c2 := mmoves_loop hN b2.2.1.2.2.1 d1 d3
  have e : fb_sm (fun q => fb_ct (fun j => hmv σ2 q (d + j)) (60 - d)) N = fb_sm (mvs σ1 d) N := fb_sm_cong fun q hq => fb_ct_cong fun j hj => by
    unfold hmv mvd
    by_cases c : 1 ≤ d + j
    · rw [b5 (d + j) (by omega) (by omega) q hq, b5 (d + j - 1) (by omega) (by omega) q hq]
      rw [Bool.eq_iff_iff]
      simp only [Bool.and_eq_true, decide_eq_true_eq, Bool.not_eq_true', decide_eq_false_iff_not, c, true_and]
      exact ⟨fun z => ⟨z.2.1, z.1, z.2.2⟩, fun z => ⟨z.2.1, z.1, z.2.2⟩⟩
    · simp [c]
  refine ⟨nI (fb_sm (mvs σ1 d) N), σ1, σ2, ?_, ?_, N, d, P', R, b2⟩
  · show kG_moves σ = _
    unfold kG_moves
    refine (bnd a1).trans ?_
    show (loopF FU kG_moves_s10 (0, 0, σ1)).bind _ = _
    exact (bnd c1).trans rfl
  · show kM_moves σ1 = _
    unfold kM_moves
    refine (bnd b1).trans ?_
    show (loopF FU kM_moves_s13 (0, 0, σ2)).bind _ = _
    rw [e] at c2
    exact (bnd c2).trans rfl
/-- what is asked of one that was made, by the class -/
theorem promised_cls {σ : Mem} {N d P R q : Nat} {x2 : Int32} (hI : INV' σ N d P R) (hq : q < N) : kG_promised σ (nI q) x2 =
    if x2 = 0 then some ((mI σ 40 0 q).toInt64, σ) else if x2 = 1 then some ((mI σ 41 0 q).toInt64, σ) else if x2 = 2 then some ((mI σ 42 0 q).toInt64, σ) else if x2 = 3 then some ((mI σ 43 0 q).toInt64, σ) else if x2 = 4 then some ((mI σ 44 0 q).toInt64, σ) else if x2 = 5 then some ((mI σ 45 0 q).toInt64, σ) else if x2 = 6 then some (mL σ 48 0 q, σ) else if x2 = 7 then some ((mI σ 46 0 q).toInt64, σ) else if x2 = 8 then some ((mI σ 47 0 q).toInt64, σ) else none := by
  obtain ⟨-, -, -, -, c0, c1, c2, c3, c4, c5, c6⟩ := hI.2.1.2.2.2.1 q hq
  obtain ⟨d1, d2, -⟩ := hI.2.2.1
  obtain ⟨j1, j2⟩ := hI.2.2.2.2.2.1 q hq
  have hm := movesIn_ok (σ := σ) (q := q) (a := 0) (b := d) (by omega) (by omega)
  have em : fb_ct (fun j => mvd σ q (0 + j)) (d - 0) = movN σ q d := by
    unfold movN
    rw [Nat.sub_zero]
    exact fb_ct_cong fun j _ => by rw [Nat.zero_add]
  rw [em] at hm
  have hm' : kQ_movesIn σ q 0 (nI d) = some (nI (movN σ q d), σ) := hm
  unfold kG_promised
  simp only [at_in hI.2.1 hq, Option.bind_some, Option.elim_some, c0, c1, c2, c3, c4, c5, c6, d2, nightsHad_ok (σ := σ) (q := q) (show d ≤ 60 by omega), hm', j1, j2]
theorem promised_none {σ : Mem} {N d P R : Nat} {x1 x2 : Int32} (hI : INV' σ N d P R) (ho : x1 < 0 ∨ nI N ≤ x1) : kG_promised σ x1 x2 = none := by
  unfold kG_promised
  rw [at_out hI.2.1 ho]
  rfl
