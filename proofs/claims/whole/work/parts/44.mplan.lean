theorem MR.put {σ : Mem} {n p m' : Nat} {tk tk' : TK} (hM : MR σ n tk) (h1 : m' < 64) (h2 : ∀ b, m'.testBit b = tk' p b) (h3 : mI σ 31 0 p ≠ 3 → m' < 2) (h4 : ∀ p' b, p' ≠ p → tk' p' b = tk p' b) : MR (sI σ 51 0 p (nI m')) n tk' := by
  refine ⟨by rw [mIsI, if_neg (by omega)]; exact hM.1, fun p' hp' => ?_⟩
  rw [mIsI, mIsI, if_neg (show ¬ (31 = 51 ∧ 0 = 0 ∧ p' = p) by omega)]
  by_cases e : p' = p
  · subst e
    exact ⟨m', h1, by rw [if_pos ⟨rfl, rfl, rfl⟩], h2, h3⟩
  · obtain ⟨m, x1, x2, x3, x4⟩ := hM.2 p' hp'
    exact ⟨m, x1, by rw [if_neg (fun z => e z.2.2)]; exact x2, fun b => by rw [x3, h4 p' b e], x4⟩
theorem j242_ok {σ : Mem} {H : HV} {n w : Nat} {tk : TK} {nd : ND} {x3 x4 x5 x8 : Int32} (hI : HI σ) (hH : hvN σ n = H) (hM : MR σ n tk) (hD : DU σ nd) (hb : ∀ w, w < 5 → nd w ≤ 300) (hw : w < 5) (h1 : 1 ≤ nd w) :
    ∃ τ, Fx [53, 54] [] σ τ ∧ DU τ (nds nd w (nd w - 1)) ∧ kM_gives_j242 σ x3 x4 x5 (nI w) x8 = if fit H tk (nds nd w (nd w - 1)) = true then some (1, τ) else
      (if inR x3 16 then (if inR x3 16 then (if x5 = 0 then some (0, sI (sI τ 53 0 w (nI (nd w))) 51 0 (ix x3) ((mI τ 51 0 (ix x3)) &&& (((1 : Int32) <<< (x4 &&& 31)) ^^^ (-1)))) else
        (if inR x8 16 then some (0, sI (sI (sI τ 53 0 w (nI (nd w))) 51 0 (ix x3) ((mI τ 51 0 (ix x3)) &&& (((1 : Int32) <<< (x4 &&& 31)) ^^^ (-1)))) 51 0 (ix x8) 0) else none)) else none) else none) := by
  have e1 : mI σ 53 0 w - 1 = nI (nd w - 1) := by rw [hD w hw, show (1 : Int32) = nI 1 from rfl, pk_sub h1]
  have hF1 : Fx [53, 54] [] σ (sI σ 53 0 w (nI (nd w - 1))) := Fx.rf.sI
  obtain ⟨τ, t1, t2⟩ := canAll_ok (n := n) (tk := tk) (nd := nds nd w (nd w - 1)) (HI.fx hF1 rfl hI) (MR.fx hF1 rfl rfl hM) hD.set (fun w' hw' => by
    unfold nds
    have := hb w hw
    have := hb w' hw'
    split <;> omega)
  rw [hvN_fx hF1 rfl, hH] at t1
  refine ⟨τ, hF1.tr (t2.wk rfl rfl), DU.fx t2 rfl hD.set, ?_⟩
  have e2 : mI τ 53 0 w + 1 = nI (nd w) := by
    rw [t2.I 53 0 w, mIsI, if_pos ⟨rfl, rfl, rfl⟩, nI_1, show nd w - 1 + 1 = nd w by omega]
  have e3 : ∀ j, mI (sI τ 53 0 w (nI (nd w))) 51 0 j = mI τ 51 0 j := fun j => by rw [mIsI, if_neg (by omega)]
  unfold kM_gives_j242
  simp only [inr_ hw, if_true, ix_ (show w < 2 ^ 31 by omega), e1, t1, Option.bind_some]
  by_cases hf : fit H tk (nds nd w (nd w - 1)) = true
  · simp only [hf, if_true, show ¬ ((1 : Int32) = 0) by decide, if_false]
  · simp only [hf, Bool.false_eq_true, if_false, if_true, e2, e3]
theorem gives_ok {σ : Mem} {H : HV} {N n q s : Nat} {tk : TK} {nd : ND} (hI : HI σ) (hB : BI σ N) (hH : hvN σ n = H) (hM : MR σ n tk) (hD : DU σ nd) (hb : ∀ w, w < 5 → nd w ≤ 300) (hq : q < N) (h1 : 1 ≤ nd (wq σ q)) (hs : s < 512) (hs4 : s % 4 ≤ 1) :
    ∃ r σ', kM_gives σ (nI q) (nI s) = some (r, σ') ∧ Fx [51, 53, 54] [] σ σ' ∧ ((r = 1 ∧ ∃ y, give H (wq σ q) s (tk, nd) = some y ∧ MR σ' n y.1 ∧ DU σ' y.2) ∨ (r = 0 ∧ give H (wq σ q) s (tk, nd) = none ∧ MR σ' n tk ∧ DU σ' nd)) := by
  have hW : WH H := by rw [← hH]; exact WHN hI
  rw [gives_ev hI hB hM hq hs hs4, hH]
  obtain ⟨hw, hw5⟩ := wq_nI hB hq
  by_cases hc : suS H (wq σ q) s = true ∧ frS H tk s = true
  · rw [if_pos hc]
    have hfr := hc.2
    unfold frS at hfr
    simp only [Bool.and_eq_true, Bool.or_eq_true, decide_eq_true_eq] at hfr
    obtain ⟨f1, f2⟩ := hfr
    have hp := fu_lt hW f1
    have hf1 := fu_iff.mp f1
    have hb6 : s % 32 / 4 < 6 := by
      have := (hW.2 _ hp hf1.1).2.2.2.1
      omega
    obtain ⟨m, m1, m2, m3, m4⟩ := hM.2 _ hp
    have hbit : m.testBit (s % 32 / 4) = false := by rw [m3]; exact hf1.2.2
    have ho : opn σ (s / 32) n = true := by rw [← hH] at hf1; exact hf1.1
    have hb0 : mI σ 31 0 (s / 32) ≠ 3 → s % 32 / 4 = 0 := fun h3 => by
      refine fu_b0 hW hp f1 ?_
      rw [← hH, kd_N ho]
      rcases kd_of hI (opn_rm ho) with k | k | k | k
      · rw [k]; decide
      · rw [k]; decide
      · rw [k]; decide
      · exact absurd k h3
    have hM1 : MR (sI σ 51 0 (s / 32) (nI (m ||| 2 ^ (s % 32 / 4)))) n (tks tk (s / 32) (s % 32 / 4) true) := by
      refine hM.put (orI m m1 _ hb6).2 (fun b => ?_) (fun h3 => ?_) (fun p' b hne => ?_)
      · rw [fb_bit_set, m3]
        unfold tks
        by_cases e : b = s % 32 / 4
        · simp [e]
        · simp [e]
      · rw [hb0 h3] at hbit ⊢
        have := m4 h3
        rcases (show m = 0 ∨ m = 1 by omega) with rfl | rfl
        · decide
        · exact absurd hbit (by decide)
      · unfold tks
        rw [if_neg (fun z => hne z.1)]
    unfold kM_gives_j216
    simp only [inr_ hp, if_true, ix_ (show s / 32 < 2 ^ 31 by omega), m2, (orI m m1 _ hb6).1]
    by_cases e4 : s % 4 = 1
    · have f3 := f2.resolve_left (fun z => z e4)
      have hp1 := fu_lt hW f3
      have hw4 := (suS_iff.mp hc.1).2.2.2.1.mp e4
      have hdr := ((suS_iff.mp hc.1).2.2.2.2.2.2.2.2 hw4)
      have hdoor : mI σ 34 0 (s / 32) = nI (s / 32 + 1) := by
        have g := hdr.2
        rw [← hH, dr_of ho] at g
        obtain ⟨-, -, -, -, -, -, -, hd⟩ := hI _ hp
        rcases hd with d | ⟨d1, d2, -⟩ | ⟨d1, d2, -⟩
        · rw [if_pos d] at g; omega
        · exact d2
        · rw [d2, if_neg (nm1 _ (by omega)), ix_] at g; omega
      have htk : tkS tk s = tks (tks tk (s / 32) (s % 32 / 4) true) (s / 32 + 1) 0 true := by
        unfold tkS
        rw [if_pos e4]
      obtain ⟨m', y1, y2, y3, y4⟩ := hM.2 _ hp1
      have hbit2 : m'.testBit 0 = false := by rw [y3]; exact (fu_iff.mp f3).2.2
      have hk1 : mI σ 31 0 (s / 32 + 1) ≠ 3 := by
        obtain ⟨-, -, -, -, -, -, -, hd⟩ := hI _ hp
        rcases hd with d | ⟨d1, d2, d3, d4, d5⟩ | ⟨d1, d2, -⟩
        · rw [d] at hdoor; exact absurd hdoor.symm (nm1 _ (by omega))
        · rw [d5]; decide
        · rw [d2] at hdoor
          have := (nI_eq (by omega) (by omega)).mp hdoor
          omega
      have hm0 : m' = 0 := by
        have := y4 hk1
        rcases (show m' = 0 ∨ m' = 1 by omega) with rfl | rfl
        · rfl
        · exact absurd hbit2 (by decide)
      have hz : ∀ b, tk (s / 32 + 1) b = false := fun b => by
        rw [← y3, hm0]
        simp
      have hM2 : MR (sI (sI σ 51 0 (s / 32) (nI (m ||| 2 ^ (s % 32 / 4)))) 51 0 (s / 32 + 1) 1) n (tkS tk s) := by
        rw [htk]
        refine hM1.put (m' := 1) (by omega) (fun b => ?_) (fun _ => by omega) (fun p' b hne => ?_)
        · unfold tks
          by_cases e : b = 0
          · simp [e]
          · have : ¬ s / 32 + 1 = s / 32 := by omega
            simp only [e, and_false, if_false, this, false_and]
            rw [hz]
            exact Nat.testBit_lt_two_pow (Nat.lt_of_lt_of_le (show 1 < 2 ^ 1 by decide) (Nat.pow_le_pow_right (by decide) (by omega)))
        · show (if p' = s / 32 + 1 ∧ b = 0 then true else _) = _
          rw [if_neg (fun z => hne z.1)]
      have hF2 : Fx [51, 53, 54] [] σ (sI (sI σ 51 0 (s / 32) (nI (m ||| 2 ^ (s % 32 / 4)))) 51 0 (s / 32 + 1) 1) := (Fx.rf.sI).sI
      obtain ⟨τ, t1, t2, t3⟩ := j242_ok (H := H) (n := n) (x3 := nI (s / 32)) (x4 := nI (s % 32 / 4)) (x5 := 1) (x8 := nI (s / 32 + 1)) (HI.fx hF2 rfl hI) (by rw [hvN_fx hF2 rfl]; exact hH) hM2 (DU.fx (Fx.wk (l' := [51]) (m' := []) ((Fx.rf.sI (l := [51]) (m := [])).sI) rfl rfl) rfl hD) hb hw5 h1
      rw [if_pos e4, if_neg (by decide), hdoor]
      simp only [inr_ hp1, if_true, ix_ (show s / 32 + 1 < 2 ^ 31 by omega)]
      rw [t3]
      have hF3 := hF2.tr (t1.wk (l' := [51, 53, 54]) (m' := []) rfl rfl)
      by_cases hfit : fit H (tkS tk s) (nds nd (wq σ q) (nd (wq σ q) - 1)) = true
      · rw [if_pos hfit]
        refine ⟨1, τ, rfl, hF3, Or.inl ⟨rfl, _, if_pos ⟨hc.1, hc.2, hfit⟩, MR.fx t1 rfl rfl hM2, t2⟩⟩
      · rw [if_neg hfit]
        have hg : give H (wq σ q) s (tk, nd) = none := if_neg (fun z => hfit z.2.2)
        have e5 : mI τ 51 0 (s / 32) = nI (m ||| 2 ^ (s % 32 / 4)) := by
          rw [t1.I 51 0 (s / 32), mIsI, if_neg (by omega), mIsI, if_pos ⟨rfl, rfl, rfl⟩]
        simp only [inr_ hp, inr_ hp1, if_true, show ¬ ((1 : Int32) = 0) by decide, if_false, ix_ (show s / 32 < 2 ^ 31 by omega), ix_ (show s / 32 + 1 < 2 ^ 31 by omega), e5, andI m m1 _ hb6 hbit]
        refine ⟨0, _, rfl, ((hF3.sI).sI).sI, Or.inr ⟨rfl, hg, ?_, ?_⟩⟩
        · have hMt : MR (sI τ 53 0 (wq σ q) (nI (nd (wq σ q)))) n (tkS tk s) := MR.fx (t1.sI) rfl rfl hM2
          have h31 : ∀ j, mI (sI τ 53 0 (wq σ q) (nI (nd (wq σ q)))) 31 0 j = mI σ 31 0 j := fun j => by
            rw [mIsI, if_neg (by omega), hF3.I 31 0 j]
          have hMa : MR (sI (sI τ 53 0 (wq σ q) (nI (nd (wq σ q)))) 51 0 (s / 32) (nI m)) n (tks tk (s / 32 + 1) 0 true) := by
            refine hMt.put m1 (fun b => ?_) (fun h3 => m4 (by rw [h31] at h3; exact h3)) (fun p' b hne => ?_)
            · rw [m3]
              unfold tks
              rw [if_neg (by omega)]
            · rw [htk]
              unfold tks
              by_cases e : p' = s / 32 + 1 ∧ b = 0
              · rw [if_pos e, if_pos e]
              · rw [if_neg e, if_neg e, if_neg (fun z => hne z.1)]
          refine hMa.put (m' := 0) (by omega) (fun b => ?_) (fun _ => by omega) (fun p' b hne => ?_)
          · rw [hz]
            simp
          · unfold tks
            rw [if_neg (fun z => hne z.1)]
        · have := t2.set (w := wq σ q) (v := nd (wq σ q))
          rw [show nds (nds nd (wq σ q) (nd (wq σ q) - 1)) (wq σ q) (nd (wq σ q)) = nd from funext fun w => by
            unfold nds
            by_cases e : w = wq σ q
            · simp [e]
            · simp [e]] at this
          exact DU.fx ((Fx.rf.sI (l := [51]) (m := [])).sI) rfl this
    · have htk : tkS tk s = tks tk (s / 32) (s % 32 / 4) true := by
        unfold tkS
        rw [if_neg e4]
      rw [← htk] at hM1
      have hF2 : Fx [51, 53, 54] [] σ (sI σ 51 0 (s / 32) (nI (m ||| 2 ^ (s % 32 / 4)))) := Fx.rf.sI
      obtain ⟨τ, t1, t2, t3⟩ := j242_ok (H := H) (n := n) (x3 := nI (s / 32)) (x4 := nI (s % 32 / 4)) (x5 := 0) (x8 := mI σ 34 0 (s / 32)) (HI.fx hF2 rfl hI) (by rw [hvN_fx hF2 rfl]; exact hH) hM1 (DU.fx (Fx.rf.sI (l := [51]) (m := [])) rfl hD) hb hw5 h1
      rw [if_neg e4, if_pos rfl, t3]
      have hF3 := hF2.tr (t1.wk (l' := [51, 53, 54]) (m' := []) rfl rfl)
      by_cases hfit : fit H (tkS tk s) (nds nd (wq σ q) (nd (wq σ q) - 1)) = true
      · rw [if_pos hfit]
        refine ⟨1, τ, rfl, hF3, Or.inl ⟨rfl, _, if_pos ⟨hc.1, hc.2, hfit⟩, MR.fx t1 rfl rfl hM1, t2⟩⟩
      · rw [if_neg hfit]
        have hg : give H (wq σ q) s (tk, nd) = none := if_neg (fun z => hfit z.2.2)
        have e5 : mI τ 51 0 (s / 32) = nI (m ||| 2 ^ (s % 32 / 4)) := by
          rw [t1.I 51 0 (s / 32), mIsI, if_pos ⟨rfl, rfl, rfl⟩]
        simp only [inr_ hp, if_true, ix_ (show s / 32 < 2 ^ 31 by omega), e5, andI m m1 _ hb6 hbit]
        refine ⟨0, _, rfl, (hF3.sI).sI, Or.inr ⟨rfl, hg, ?_, ?_⟩⟩
        · have hMt : MR (sI τ 53 0 (wq σ q) (nI (nd (wq σ q)))) n (tkS tk s) := MR.fx (t1.sI) rfl rfl hM1
          have h31 : ∀ j, mI (sI τ 53 0 (wq σ q) (nI (nd (wq σ q)))) 31 0 j = mI σ 31 0 j := fun j => by
            rw [mIsI, if_neg (by omega), hF3.I 31 0 j]
          refine hMt.put m1 m3 (fun h3 => m4 (by rw [h31] at h3; exact h3)) (fun p' b hne => ?_)
          rw [htk]
          unfold tks
          rw [if_neg (fun z => hne z.1)]
        · have := t2.set (w := wq σ q) (v := nd (wq σ q))
          rw [show nds (nds nd (wq σ q) (nd (wq σ q) - 1)) (wq σ q) (nd (wq σ q)) = nd from funext fun w => by
            unfold nds
            by_cases e : w = wq σ q
            · simp [e]
            · simp [e]] at this
          exact DU.fx (Fx.rf.sI (l := [51]) (m := [])) rfl this
  · rw [if_neg hc]
    exact ⟨0, σ, rfl, Fx.rf, Or.inr ⟨rfl, if_neg (fun z => hc ⟨z.1, z.2.1⟩), hM, hD⟩⟩
