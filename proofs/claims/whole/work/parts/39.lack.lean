def cw (σ : Mem) (n : Nat) (but : Int32) (i : Nat) : ND := fun w => fb_ct (fun q => decide (nI q ≠ but) && (wnt σ q n && decide (wq σ q = w))) i
def cwN (σ : Mem) (n : Nat) (but more : Int32) (N : Nat) : ND := if more = -1 then cw σ n but N else nds (cw σ n but N) (ix more) (cw σ n but N (ix more) + 1)
theorem cw_le {σ : Mem} {n : Nat} {but : Int32} {i w : Nat} : cw σ n but i w ≤ i := fb_ct_le _ i
theorem cw_skip {σ : Mem} {n : Nat} {but : Int32} {i : Nat} (h : ¬ (nI i ≠ but ∧ wnt σ i n = true)) : cw σ n but (i + 1) = cw σ n but i := by
  funext w
  unfold cw
  rw [fb_ct_succ]
  have : (decide (nI i ≠ but) && (wnt σ i n && decide (wq σ i = w))) = false := by
    by_cases h1 : nI i = but
    · simp [h1]
    · have h2 : ¬ wnt σ i n = true := fun z => h ⟨h1, z⟩
      simp [h2]
  rw [this]
  rfl
theorem cw_add {σ : Mem} {n : Nat} {but : Int32} {i : Nat} (h1 : nI i ≠ but) (h2 : wnt σ i n = true) : cw σ n but (i + 1) = nds (cw σ n but i) (wq σ i) (cw σ n but i (wq σ i) + 1) := by
  funext w
  unfold nds
  by_cases e : w = wq σ i
  · rw [if_pos e, ← e]
    unfold cw
    rw [fb_ct_succ]
    simp [h1, h2, e]
  · rw [if_neg e]
    unfold cw
    rw [fb_ct_succ]
    have e' : ¬ wq σ i = w := fun z => e z.symm
    simp [e']
theorem tot_add {a : ND} {w : Nat} (hw : w < 5) : tot (nds a w (a w + 1)) = tot a + 1 := by
  unfold tot nds
  rcases (show w = 0 ∨ w = 1 ∨ w = 2 ∨ w = 3 ∨ w = 4 by omega) with rfl | rfl | rfl | rfl | rfl <;> simp <;> omega
theorem cwN_le {σ : Mem} {n : Nat} {but more : Int32} {N : Nat} (hN : N ≤ 40) (w : Nat) (_ : w < 5) : cwN σ n but more N w ≤ 300 := by
  unfold cwN
  have h1 := cw_le (σ := σ) (n := n) (but := but) (i := N) (w := w)
  split
  · omega
  · unfold nds
    have h2 := cw_le (σ := σ) (n := n) (but := but) (i := N) (w := ix more)
    split <;> omega
theorem wq_nI {σ : Mem} {N q : Nat} (hB : BI σ N) (hq : q < N) : mI σ 41 0 q = nI (wq σ q) ∧ wq σ q < 5 := by
  obtain ⟨-, ⟨w, hw, e⟩, -⟩ := hB.2.2.2.1 q hq
  unfold wq
  rw [e, ix_]
  exact ⟨rfl, hw⟩
theorem shortOf_ok {σ : Mem} {N n : Nat} {but more : Int32} (hI : HI σ) (hB : BI σ N) (hn : n < 60) (hm : more = -1 ∨ ∃ w, w < 5 ∧ more = nI w) :
    ∃ σ', kG_shortOf σ (nI n) more but = some (nI (short (hvN σ n) tk0 (cwN σ n but more N)), σ') ∧ Fx [8, 9, 10] [(7, 4)] σ σ' := by
  obtain ⟨τ0, b1, b2, b3⟩ := begin_ok hI hn
  have hN := hB.1
  unfold kG_shortOf
  rw [b1]
  simp only [Option.bind_some]
  obtain ⟨τ, l1, l2, l3⟩ := lp_inv (f := kG_shortOf_s11 (nI n) more but) (fun i s => ∃ τ, s = (nI i, τ) ∧ Fx [8, 9, 10] [(7, 4)] σ τ ∧ VR τ (hvN σ n) tk0 (cw σ n but i)) (fun τ => Fx [8, 9, 10] [(7, 4)] σ τ ∧ VR τ (hvN σ n) tk0 (cw σ n but N)) N (by omega) (fun i s hi hs => by
    obtain ⟨τ, rfl, a1, a2⟩ := hs
    have hBt := BI.fx a1 rfl rfl hB
    refine Or.inl ?_
    simp only [kG_shortOf_s11, hBt.2.1, nge hi (by omega), if_false, at_in hBt hi, Option.bind_some, Option.elim_some]
    by_cases e1 : nI i = but
    · rw [if_pos e1]
      exact ⟨_, rfl, τ, by rw [nI_1], a1, by rw [cw_skip (fun z => z.1 e1)]; exact a2⟩
    · rw [if_neg e1, stands_in hBt hi]
      simp only [Option.bind_some, a1.I 40 0 i]
      by_cases e2 : mI σ 40 0 i ≤ 2
      · rw [if_pos e2, if_neg (by decide), covers_in hBt hi]
        simp only [Option.bind_some, a1.I 43 0 i, a1.I 44 0 i]
        by_cases e3 : mI σ 43 0 i ≤ nI n ∧ nI n < mI σ 44 0 i
        · rw [if_pos e3, if_neg (by decide)]
          have hw : wnt σ i n = true := wnt_iff.mpr ⟨e2, e3⟩
          have hwq := wq_nI hB hi
          rw [((hBt.2.2.2.1 i hi).2.2.2.2.1), a1.I 41 0 i, hwq.1]
          obtain ⟨τ', c1, c2, c3⟩ := addNeed_ok hwq.2 a2
          rw [c1]
          exact ⟨_, rfl, τ', by rw [nI_1], a1.tr (c2.wk rfl rfl), by rw [cw_add e1 hw]; exact c3⟩
        · rw [if_neg e3, if_pos rfl]
          exact ⟨_, rfl, τ, by rw [nI_1], a1, by rw [cw_skip (fun z => e3 (wnt_iff.mp z.2).2)]; exact a2⟩
      · rw [if_neg e2, if_pos rfl]
        exact ⟨_, rfl, τ, by rw [nI_1], a1, by rw [cw_skip (fun z => e2 (wnt_iff.mp z.2).1)]; exact a2⟩) (fun s hs => by
    obtain ⟨τ, rfl, a1, a2⟩ := hs
    have hBt := BI.fx a1 rfl rfl hB
    exact ⟨τ, by simp only [kG_shortOf_s11, hBt.2.1, nle (Nat.le_refl N) (by omega), if_true], a1, a2⟩) (s := (0, τ0)) ⟨τ0, rfl, b2, b3⟩
  rw [l1]
  unfold kG_shortOf_x80
  simp only [Option.bind_some]
  have hW := WHN (n := n) hI
  rcases hm with rfl | ⟨w, hw, rfl⟩
  · rw [addNeed_no]
    have hc : cwN σ n but (-1) N = cw σ n but N := if_pos rfl
    rw [← hc] at l3
    simp only [Option.bind_some, shortage_ok hW l3 (cwN_le hN)]
    exact ⟨τ, rfl, l2⟩
  · obtain ⟨τ', c1, c2, c3⟩ := addNeed_ok hw l3
    have hc : cwN σ n but (nI w) N = nds (cw σ n but N) w (cw σ n but N w + 1) := by
      unfold cwN
      rw [if_neg (nm1 w (by omega)), ix_]
    rw [← hc] at c3
    simp only [c1, Option.bind_some, shortage_ok hW c3 (cwN_le hN)]
    exact ⟨τ', rfl, l2.tr (c2.wk rfl rfl)⟩
/-! the same by the reference -/
theorem fresh_ok {σ : Mem} {n : Nat} : ∃ σ', kM_fresh σ (nI n) = some ((), σ') ∧ Fx [51] [(30, 22)] σ σ' ∧ MR σ' n tk0 := by
  unfold kM_fresh
  obtain ⟨τ, l1, l2, l3, l4⟩ := lp_inv (f := kM_fresh_s7) (fun i s => ∃ τ, s = (nI i, τ) ∧ Fx [51] [(30, 22)] σ τ ∧ mI τ 30 0 22 = nI n ∧ ∀ p, p < i → mI τ 51 0 p = 0) (fun τ => Fx [51] [(30, 22)] σ τ ∧ mI τ 30 0 22 = nI n ∧ ∀ p, p < 16 → mI τ 51 0 p = 0) 16 (by omega) (fun i s hi hs => by
    obtain ⟨τ, rfl, a1, a2, a3⟩ := hs
    refine Or.inl ?_
    simp only [kM_fresh_s7, show ¬ (16 : Int32) ≤ nI i from nge hi, if_false, inr_ hi, if_true, ix_ (show i < 2 ^ 31 by omega), nI_1]
    refine ⟨_, rfl, _, rfl, a1.sI, by rw [mIsI, if_neg (by omega)]; exact a2, fun p hp => ?_⟩
    rw [mIsI]
    by_cases e : p = i
    · rw [if_pos ⟨rfl, rfl, e⟩]
    · rw [if_neg (fun z => e z.2.2)]
      exact a3 p (by omega)) (fun s hs => by
    obtain ⟨τ, rfl, a⟩ := hs
    exact ⟨τ, by simp only [kM_fresh_s7, show (16 : Int32) ≤ nI 16 from nle (Nat.le_refl 16), if_true], a⟩) (s := (0, sI σ 30 0 22 (nI n))) ⟨_, rfl, Fx.rf.sI, by rw [mIsI, if_pos ⟨rfl, rfl, rfl⟩], fun p hp => by omega⟩
  rw [l1]
  exact ⟨τ, rfl, l2, l3, fun p hp => ⟨0, by omega, l4 p hp, fun b => by simp [tk0], fun _ => by omega⟩⟩
theorem MR.fx {l : List Nat} {m : List (Nat × Nat)} {σ σ' : Mem} {n : Nat} {tk : TK} (h : Fx l m σ σ') (hn : nohit [31, 51] l m = true) (hs : noslot 30 22 l m = true) (hM : MR σ n tk) : MR σ' n tk := by
  obtain ⟨a, b⟩ := hM
  refine ⟨by rw [h.sI_ 0 hs]; exact a, fun p hp => ?_⟩
  rw [h.hI hn 51 0 p, h.hI hn 31 0 p]
  exact b p hp
theorem canAll_ok {σ : Mem} {n : Nat} {tk : TK} {nd : ND} (hI : HI σ) (hM : MR σ n tk) (hd : ∀ w, w < 5 → mI σ 53 0 w = nI (nd w)) (hb : ∀ w, w < 5 → nd w ≤ 300) : ∃ σ', kM_canAll σ = some (if fit (hvN σ n) tk nd = true then 1 else 0, σ') ∧ Fx [54] [] σ σ' := by
  unfold kM_canAll
  obtain ⟨e, l1, τ, rfl, l2, l3⟩ := lp_inv (f := kM_canAll_s4) (fun i s => ∃ τ, s = (nI (fb_sm nd i), nI i, τ) ∧ Fx [54] [] σ τ ∧ ∀ w, w < i → mI τ 54 0 w = nI (nd w)) (fun e => ∃ τ, e = (nI (fb_sm nd 5), τ) ∧ Fx [54] [] σ τ ∧ ∀ w, w < 5 → mI τ 54 0 w = nI (nd w)) 5 (by omega) (fun i s hi hs => by
    obtain ⟨τ, rfl, a1, a2⟩ := hs
    refine Or.inl ?_
    have e1 : mI τ 53 0 i = nI (nd i) := by rw [a1.I 53 0 i]; exact hd i hi
    have e9 : mI (sI τ 54 0 i (nI (nd i))) 53 0 i = nI (nd i) := by rw [mIsI, if_neg (by omega), e1]
    simp only [kM_canAll_s4, show ¬ (5 : Int32) ≤ nI i from nge hi, if_false, inr_ hi, if_true, ix_ (show i < 2 ^ 31 by omega), nI_1, e1, e9, nI_add]
    refine ⟨_, rfl, _, rfl, a1.sI, fun w hw => ?_⟩
    rw [mIsI]
    by_cases e : w = i
    · rw [if_pos ⟨rfl, rfl, e⟩, e]
    · rw [if_neg (fun z => e z.2.2)]
      exact a2 w (by omega)) (fun s hs => by
    obtain ⟨τ, rfl, a⟩ := hs
    exact ⟨_, by simp only [kM_canAll_s4, show (5 : Int32) ≤ nI 5 from nle (Nat.le_refl 5), if_true], τ, rfl, a⟩) (s := (0, 0, σ)) ⟨σ, rfl, Fx.rf, fun p hp => by omega⟩
  rw [l1]
  unfold kM_canAll_x36
  obtain ⟨i1, i2, i3, i4, i5, i6, i7, i8, i9⟩ := inr_lit
  obtain ⟨x0, x1, x2, x3, x4⟩ := ix_lit
  have hIt := HI.fx l2 rfl hI
  have hMt := MR.fx l2 rfl rfl hM
  have hp := poured_ok (s := nd 4) hIt hMt l3 hb (hb 4 (by omega))
  rw [hvN_fx l2 rfl] at hp
  simp only [Option.bind_some, i5, if_true, x4, l3 4 (by omega), hp]
  refine ⟨τ, ?_, l2⟩
  have htot : fb_sm nd 5 = tot nd := by
    simp only [fb_sm, tot]
    omega
  have hb0 := hb 0 (by omega)
  have hb1 := hb 1 (by omega)
  have hb2 := hb 2 (by omega)
  have hb3 := hb 3 (by omega)
  have hb4 := hb 4 (by omega)
  have ht : tot nd ≤ 1500 := by unfold tot; omega
  have hpl := pour_le (H := hvN σ n) (tk := tk) (nd := nd) (Nat.le_refl (nd 4))
  rw [htot]
  by_cases e : fit (hvN σ n) tk nd = true
  · rw [if_pos e, if_pos (by rw [(pour_fit (WHN hI)).mpr e])]
  · rw [if_neg e, if_neg (fun z => e ((pour_fit (WHN hI)).mp ((nI_eq (by omega) (by omega)).mp z)))]
/-- the reference's own rows of the promises -/
def MB (σ : Mem) (N : Nat) : Prop := N ≤ 40 ∧ mI σ 30 0 20 = nI N ∧ ∀ q, q < N → ∃ w, w < 5 ∧ mI σ 41 0 q = nI w
theorem BI.mb {σ : Mem} {N : Nat} (h : BI σ N) : MB σ N := ⟨h.1, h.2.2.1, fun q hq => (h.2.2.2.1 q hq).2.1⟩
theorem MB.fx {l : List Nat} {m : List (Nat × Nat)} {σ σ' : Mem} {N : Nat} (h : Fx l m σ σ') (hn : nohit [41] l m = true) (hs : noslot 30 20 l m = true) (hB : MB σ N) : MB σ' N :=
  ⟨hB.1, by rw [h.sI_ 0 hs]; exact hB.2.1, fun q hq => by rw [h.hI hn 41 0 q]; exact hB.2.2 q hq⟩
theorem wq_nM {σ : Mem} {N q : Nat} (hB : MB σ N) (hq : q < N) : mI σ 41 0 q = nI (wq σ q) ∧ wq σ q < 5 := by
  obtain ⟨w, hw, e⟩ := hB.2.2 q hq
  unfold wq
  rw [e, ix_]
  exact ⟨rfl, hw⟩
def bst (f : Nat → Nat) : Nat → Nat
  | 0 => 0
  | s + 1 => mxp f s
theorem lack_ok {σ : Mem} {N n : Nat} {but more : Int32} (hI : HI σ) (hB : MB σ N) (hm : more = -1 ∨ ∃ w, w < 5 ∧ more = nI w) :
    ∃ σ', kM_lack σ (nI n) more but = some (nI (short (hvN σ n) tk0 (cwN σ n but more N)), σ') ∧ Fx [51, 54] [(30, 22)] σ σ' := by
  have hN := hB.1
  obtain ⟨i1, i2, i3, i4, i5, i6, i7, i8, i9⟩ := inr_lit
  obtain ⟨x0, x1, x2, x3, x4⟩ := ix_lit
  obtain ⟨τ0, f1, f2, f3⟩ := fresh_ok (σ := σ) (n := n)
  unfold kM_lack
  rw [f1]
  simp only [Option.bind_some]
  obtain ⟨τ1, l1, l2, l3⟩ := lp_inv (f := kM_lack_s11 (nI n) more but 0) (fun i s => ∃ τ, s = (nI i, τ) ∧ Fx [54] [] τ0 τ ∧ ∀ w, w < i → mI τ 54 0 w = 0) (fun τ => Fx [54] [] τ0 τ ∧ ∀ w, w < 5 → mI τ 54 0 w = 0) 5 (by omega) (fun i s hi hs => by
    obtain ⟨τ, rfl, a1, a2⟩ := hs
    refine Or.inl ?_
    simp only [kM_lack_s11, show ¬ (5 : Int32) ≤ nI i from nge hi, if_false, inr_ hi, if_true, ix_ (show i < 2 ^ 31 by omega), nI_1]
    refine ⟨_, rfl, _, rfl, a1.sI, fun w hw => ?_⟩
    rw [mIsI]
    by_cases e : w = i
    · rw [if_pos ⟨rfl, rfl, e⟩]
    · rw [if_neg (fun z => e z.2.2)]
      exact a2 w (by omega)) (fun s hs => by
    obtain ⟨τ, rfl, a⟩ := hs
    exact ⟨τ, by simp only [kM_lack_s11, show (5 : Int32) ≤ nI 5 from nle (Nat.le_refl 5), if_true], a⟩) (s := (0, τ0)) ⟨τ0, rfl, Fx.rf, fun p hp => by omega⟩
  rw [l1]
  unfold kM_lack_x31
  simp only [Option.bind_some]
  have hF1 : Fx [51, 54] [(30, 22)] σ τ1 := (f2.wk rfl rfl).tr (l2.wk rfl rfl)
  obtain ⟨e, k1, τ2, rfl, k2, k3⟩ := lp_inv (f := kM_lack_s34 (nI n) more but) (fun i s => ∃ τ, s = (nI (tot (cw σ n but i)), nI i, τ) ∧ Fx [54] [] τ1 τ ∧ ∀ w, w < 5 → mI τ 54 0 w = nI (cw σ n but i w)) (fun e => ∃ τ, e = (nI (tot (cw σ n but N)), τ) ∧ Fx [54] [] τ1 τ ∧ ∀ w, w < 5 → mI τ 54 0 w = nI (cw σ n but N w)) N (by omega) (fun i s hi hs => by
    obtain ⟨τ, rfl, a1, a2⟩ := hs
    have hFt : Fx [51, 54] [(30, 22)] σ τ := hF1.tr (a1.wk rfl rfl)
    have hBt := MB.fx hFt rfl rfl hB
    refine Or.inl ?_
    simp only [kM_lack_s34, hBt.2.1, nge hi (by omega), if_false]
    by_cases e1 : nI i = but
    · rw [if_pos e1]
      exact ⟨_, rfl, τ, by rw [nI_1, cw_skip (fun z => z.1 e1)], a1, by rw [cw_skip (fun z => z.1 e1)]; exact a2⟩
    · rw [if_neg e1, mWants_in (by omega), wnt_fx hFt rfl]
      simp only [Option.bind_some]
      by_cases e2 : wnt σ i n = true
      · rw [if_pos e2, if_neg (by decide)]
        have hwq := wq_nM hB hi
        have e3 : mI τ 41 0 i = nI (wq σ i) := by rw [hFt.I 41 0 i]; exact hwq.1
        simp only [inr_ (show i < 40 by omega), if_true, ix_ (show i < 2 ^ 31 by omega), e3, inr_ hwq.2, ix_ (show wq σ i < 2 ^ 31 by omega), a2 _ hwq.2, nI_1]
        refine ⟨_, rfl, _, by rw [cw_add e1 e2, tot_add hwq.2], a1.sI, fun w hw => ?_⟩
        rw [mIsI, cw_add e1 e2]
        unfold nds
        by_cases e : w = wq σ i
        · rw [if_pos ⟨rfl, rfl, e⟩, if_pos e]
        · rw [if_neg (fun z => e z.2.2), if_neg e]
          exact a2 w hw
      · rw [if_neg e2, if_pos rfl]
        exact ⟨_, rfl, τ, by rw [nI_1, cw_skip (fun z => e2 z.2)], a1, by rw [cw_skip (fun z => e2 z.2)]; exact a2⟩) (fun s hs => by
    obtain ⟨τ, rfl, a1, a2⟩ := hs
    have hFt : Fx [51, 54] [(30, 22)] σ τ := hF1.tr (a1.wk rfl rfl)
    have hBt := MB.fx hFt rfl rfl hB
    exact ⟨_, by simp only [kM_lack_s34, hBt.2.1, nle (Nat.le_refl N) (by omega), if_true], τ, rfl, a1, a2⟩) (s := (0, 0, τ1)) ⟨τ1, rfl, Fx.rf, fun w hw => by rw [l3 w hw]; rfl⟩
  rw [k1]
  simp only [Option.bind_some]
  have hF2 : Fx [51, 54] [(30, 22)] σ τ2 := hF1.tr (k2.wk rfl rfl)
  have hM1 := MR.fx l2 rfl rfl f3
  have key : ∀ (nd : ND) (τ : Mem), Fx [51, 54] [(30, 22)] σ τ → MR τ n tk0 → (∀ w, w < 5 → mI τ 54 0 w = nI (nd w)) → (∀ w, w < 5 → nd w ≤ 300) → kM_lack_j105 τ (nI (tot nd)) = some (nI (short (hvN σ n) tk0 nd), τ) := by
    intro nd τ hF hM h54 hb
    have hIt := HI.fx hF rfl hI
    have hp : ∀ s, s ≤ 300 → kM_poured τ (nI s) = some (nI (pour (hvN σ n) tk0 nd s), τ) := fun s hs => by
      rw [poured_ok hIt hM h54 hb hs, hvN_fx hF rfl]
    have hb0 := hb 0 (by omega)
    have hb1 := hb 1 (by omega)
    have hb2 := hb 2 (by omega)
    have hb3 := hb 3 (by omega)
    have hb4 := hb 4 (by omega)
    have ht : tot nd ≤ 1500 := by unfold tot; omega
    have hloop : loopF FU (kM_lack_s111 (nI (tot nd))) (0, 0, τ) = some (nI (mxp (pour (hvN σ n) tk0 nd) (nd 4)), τ) := by
      refine lp_eq (fun s => (nI (bst (pour (hvN σ n) tk0 nd) s), nI s, τ)) _ (nd 4 + 1) (by omega) (fun s hs => ?_) ?_
      · simp only [kM_lack_s111, i5, if_true, x4, h54 4 (by omega), nI_nlt (show s ≤ nd 4 by omega) (by omega), if_false, hp s (by omega), Option.bind_some, nI_1]
        have hpl := pour_le (H := hvN σ n) (tk := tk0) (nd := nd) (show s ≤ nd 4 by omega)
        cases s with
        | zero =>
          show (if nI (pour (hvN σ n) tk0 nd 0) ≤ nI 0 then some (Sum.inl (nI 0, _, _)) else _) = some (Sum.inl (nI (pour (hvN σ n) tk0 nd 0), _, _))
          by_cases e : pour (hvN σ n) tk0 nd 0 = 0
          · rw [e, if_pos (nle (Nat.le_refl 0))]
          · rw [if_neg (nge (by omega))]
        | succ s =>
          show (if nI (pour (hvN σ n) tk0 nd (s + 1)) ≤ nI (mxp (pour (hvN σ n) tk0 nd) s) then some (Sum.inl (nI (mxp (pour (hvN σ n) tk0 nd) s), _, _)) else _) = some (Sum.inl (nI (max (mxp (pour (hvN σ n) tk0 nd) s) (pour (hvN σ n) tk0 nd (s + 1))), _, _))
          have hm := mxp_le (H := hvN σ n) (tk := tk0) (nd := nd) s (by omega)
          by_cases e : pour (hvN σ n) tk0 nd (s + 1) ≤ mxp (pour (hvN σ n) tk0 nd) s
          · rw [if_pos (nle e), Nat.max_eq_left e]
          · rw [if_neg (nge (by omega)), Nat.max_eq_right (by omega)]
      · simp only [kM_lack_s111, i5, if_true, x4, h54 4 (by omega), nI_lt (show nd 4 < nd 4 + 1 by omega) (by omega)]
        rfl
    unfold kM_lack_j105
    rw [hloop]
    unfold kM_lack_x147
    have hm := mxp_le (H := hvN σ n) (tk := tk0) (nd := nd) (nd 4) (Nat.le_refl _)
    simp only [Option.bind_some, pk_sub hm]
    rfl
  unfold kM_lack_x87
  have hM2 := MR.fx k2 rfl rfl hM1
  rcases hm with rfl | ⟨w, hw, rfl⟩
  · have hc : cwN σ n but (-1) N = cw σ n but N := if_pos rfl
    rw [if_pos rfl, hc, key (cw σ n but N) τ2 hF2 hM2 k3 (fun w hw => by rw [← hc]; exact cwN_le hN w hw)]
    exact ⟨τ2, rfl, hF2⟩
  · have hc : cwN σ n but (nI w) N = nds (cw σ n but N) w (cw σ n but N w + 1) := by
      unfold cwN
      rw [if_neg (nm1 w (by omega)), ix_]
    simp only [nm1 w (by omega), if_false, inr_ hw, if_true, ix_ (show w < 2 ^ 31 by omega), k3 w hw, nI_1]
    rw [← tot_add hw, ← hc]
    rw [key (cwN σ n but (nI w) N) _ (hF2.sI) (MR.fx (Fx.rf.sI (l := [54]) (m := [])) rfl rfl hM2) (fun w' hw' => ?_) (cwN_le hN)]
    · exact ⟨_, rfl, hF2.sI⟩
    · rw [mIsI, hc]
      unfold nds
      by_cases e : w' = w
      · rw [if_pos ⟨rfl, rfl, e⟩, if_pos e]
      · rw [if_neg (fun z => e z.2.2), if_neg e]
        exact k3 w' hw'
