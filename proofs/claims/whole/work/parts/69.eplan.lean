/-! both have planned -/
theorem both_plan {σ : Mem} {N d P R : Nat} {x : Int32} (hI : INV' σ N d P R) : ∃ σ1 P', kG_planUpTo σ x = some ((), σ1) ∧ INV' σ1 N d P' R ∧ (∀ n, n < 60 → (x = nI n ∨ nI 60 ≤ x) → n < P') ∧
    ∃ σ2, kM_plans (sI σ1 30 0 0 0) = some ((), σ2) ∧ INV' σ2 N d P' R ∧ MPF (sI σ1 30 0 0 0) σ2 ∧ (∀ n, n < 60 → NV σ2 N (hist σ2 N n) ∧ ∀ q, q < N → mI σ2 49 0 (60 * q + n) = cd (hist σ2 N n q)) ∧ ∀ n, n < P' → n < 60 → ∀ q, q < N → mI σ1 22 q n = mI σ2 49 0 (60 * q + n) := by
  obtain ⟨σ1, a1, a2, a3, P', a4, a5, a6⟩ := upTo_ok (x := x) hI.1 hI.2.1 hI.2.2.2.1 hI.2.2.2.2.1
  have hI1 := hI.up a2 a3 a5
  have hI1' : INV' (sI σ1 30 0 0 0) N d P' R := hI1.thr
  obtain ⟨d1, d2, d3, -⟩ := hI1'.2.2.1
  obtain ⟨σ2, b1, b2, b3, b4⟩ := plans_ok hI1'.1 hI1'.2.1 d1 d3 hI1'.2.2.2.1
  have hI2 := hI1'.mp b2 b3
  have z22 : ∀ q n, mI σ2 22 q n = mI σ1 22 q n := fun q n => by rw [Fx.I b2 22 q n, mIsI, if_neg (by omega)]
  refine ⟨σ1, P', a1, hI1, a6, σ2, b1, hI2, b2, fun n hn => ?_, fun n hnP hn q hq => ?_⟩
  · by_cases c : n < d
    · obtain ⟨u1, u2⟩ := hI2.2.2.2.1 n c
      exact ⟨u1, fun q hq => (u2 q hq).1⟩
    · have hnv : NV (sI σ1 30 0 0 0) N (PS (sI σ1 30 0 0 0) N d (n - d)) := PS_NV hI1'.1 hI1'.2.1
      have hh : hist σ2 N n = PS (sI σ1 30 0 0 0) N d (n - d) := funext fun q => by
        unfold hist
        by_cases hq : q < N
        · rw [if_pos hq, b4 n (by omega) hn q hq]
          exact dc_cd (fun s hs => (suS_iff.mp (hnv.1 q hq s hs)).2.1)
        · rw [if_neg hq, PS_out hI1'.1 hI1'.2.1 (by omega)]
      rw [hh]
      exact ⟨NV_eq (hvS_fx b2 rfl) (fun q _ => wq_fx b2 rfl q) hnv, fun q hq => b4 n (by omega) hn q hq⟩
  · by_cases c : n < d
    · have := ((hI2.2.2.2.1 n c).2 q hq).2
      rw [z22] at this
      exact this
    · rw [b4 n (by omega) hn q hq, (hI1'.2.2.2.2.1).2.2.2 n (by omega) hnP q hq |>.symm, mIsI, if_neg (by omega)]
theorem E_spot {σ : Mem} {x1 x2 : Int32} (hI : INV σ) : EQ2 (fun σ => kG_spot σ x1 x2) (fun σ => kM_spot σ x1 x2) σ := by
  obtain ⟨N, d, P, R, hI⟩ := hI
  have hB := hI.2.1
  have hN := hB.1
  have hno : kG_spot σ x1 x2 = some (-1, σ) → kM_spot σ x1 x2 = some (-1, sI σ 30 0 0 0) → EQ2 (fun σ => kG_spot σ x1 x2) (fun σ => kM_spot σ x1 x2) σ := fun a b => ⟨-1, σ, _, a, b, N, d, P, R, hI.thr⟩
  have z20 : mI (sI σ 30 0 0 0) 30 0 20 = nI N := hB.2.2.1
  have out : (x1 < 0 ∨ nI N ≤ x1) → EQ2 (fun σ => kG_spot σ x1 x2) (fun σ => kM_spot σ x1 x2) σ := fun ho => by
    refine hno ?_ ?_
    · unfold kG_spot; rw [at_out hB ho]; rfl
    · unfold kM_spot; rw [mIs_out z20 ho]; rfl
  rcases i32 x1 N with ho | ho | ⟨q, hq, rfl⟩
  · exact out (Or.inl ho)
  · exact out (Or.inr ho)
  · have out2 : (x2 < 0 ∨ nI 60 ≤ x2) → EQ2 (fun σ => kG_spot σ (nI q) x2) (fun σ => kM_spot σ (nI q) x2) σ := fun ho => by
      refine hno ?_ ?_
      · unfold kG_spot
        simp only [at_in hB hq, Option.bind_some, Option.elim_some, isNight_out ho, if_true]
      · unfold kM_spot
        simp only [mIs_in z20 hN hq, Option.bind_some, show ¬ ((1 : Int32) = 0) by decide, if_false, mNight_out ho, if_true]
    rcases i32 x2 60 with ho | ho | ⟨n, hn, rfl⟩
    · exact out2 (Or.inl ho)
    · exact out2 (Or.inr ho)
    · obtain ⟨σ1, P', a1, a2, a3, σ2, b1, b2, b3, b4, b5⟩ := both_plan (x := nI n) hI
      have e := b5 n (a3 n hn (Or.inl rfl)) hn q hq
      have z20' : mI (sI σ1 30 0 0 0) 30 0 20 = nI N := a2.2.1.2.2.1
      refine ⟨mI σ1 22 q n, σ1, σ2, ?_, ?_, N, d, P', R, b2⟩
      · show kG_spot σ (nI q) (nI n) = _
        unfold kG_spot
        simp only [at_in hB hq, Option.bind_some, Option.elim_some, isNight_in hn, show ¬ ((1 : Int32) = 0) by decide, if_false, a1, spotIn_in hn]
      · show kM_spot σ1 (nI q) (nI n) = _
        unfold kM_spot
        simp only [mIs_in z20' hN hq, Option.bind_some, show ¬ ((1 : Int32) = 0) by decide, if_false, mNight_in hn, b1, ixq, inr_ (show 60 * q + n < 2400 by omega), if_true, ix_ (show 60 * q + n < 2 ^ 31 by omega), e]
theorem nightsHad_ok {σ : Mem} {q d : Nat} (hd : d ≤ 60) : kQ_nightsHad σ q (nI d) = some (nI (hadN σ q d), σ) := by
  obtain ⟨y, a, b⟩ := lp_inv (f := kQ_nightsHad_s4 q (nI d)) (fun i s => s = (nI (hadN σ q i), nI i, σ)) (fun y => y = (nI (hadN σ q d), σ)) d (by omega) (fun i s hi hs => by
    subst hs
    refine Or.inl ?_
    simp only [kQ_nightsHad_s4, nge hi (by omega), if_false, spotIn_in (show i < 60 by omega), Option.bind_some]
    by_cases c : mI σ 22 q i = -1
    · rw [if_pos c]
      refine ⟨_, rfl, ?_⟩
      rw [show hadN σ q (i + 1) = hadN σ q i + (if decide (mI σ 22 q i ≠ -1) = true then 1 else 0) from rfl, if_neg (by simp [c]), nI_1, Int32.add_zero]
      rfl
    · rw [if_neg c]
      refine ⟨_, rfl, ?_⟩
      rw [show hadN σ q (i + 1) = hadN σ q i + (if decide (mI σ 22 q i ≠ -1) = true then 1 else 0) from rfl, if_pos (by simp [c]), nI_1, nI_1]) (fun s hs => by
    subst hs
    exact ⟨_, by simp only [kQ_nightsHad_s4, nle (Nat.le_refl d) (by omega), if_true], rfl⟩) (s := (0, 0, σ)) rfl
  unfold kQ_nightsHad
  rw [a, b]
  rfl
theorem spotIn_prev {σ : Mem} {q n : Nat} (hn : n < 60) : kQ_spotIn σ q (nI n - 1) = some (if 1 ≤ n then mI σ 22 q (n - 1) else -1, σ) := by
  cases n with
  | zero =>
    unfold kQ_spotIn
    rw [isNight_out (Or.inl (by decide)), if_neg (by omega)]
    rfl
  | succ n => rw [← nI_1, Int32.add_sub_cancel, spotIn_in (by omega), if_pos (by omega)]; rfl
theorem movesIn_ok {σ : Mem} {q a b : Nat} (hab : a ≤ b) (hb : b ≤ 60) : kQ_movesIn σ q (nI a) (nI b) = some (nI (fb_ct (fun j => mvd σ q (a + j)) (b - a)), σ) := by
  obtain ⟨y, l1, l2⟩ := lp_inv (f := kQ_movesIn_s5 q (nI b)) (fun i s => s = (nI (fb_ct (fun j => mvd σ q (a + j)) i), nI (a + i), σ)) (fun y => y = (nI (fb_ct (fun j => mvd σ q (a + j)) (b - a)), σ)) (b - a) (by omega) (fun i s hi hs => by
    subst hs
    refine Or.inl ?_
    simp only [kQ_movesIn_s5, nge (show a + i < b by omega) (by omega), if_false, spotIn_prev (show a + i < 60 by omega), spotIn_in (show a + i < 60 by omega), Option.bind_some]
    have hz : mvd σ q (a + i) = false → ∃ s', some (Sum.inl (nI (fb_ct (fun j => mvd σ q (a + j)) i) + 0, nI (a + i) + 1, σ)) = some (Sum.inl (β := Int32 × Mem) s') ∧ s' = (nI (fb_ct (fun j => mvd σ q (a + j)) (i + 1)), nI (a + (i + 1)), σ) := fun h => by
      refine ⟨_, rfl, ?_⟩
      rw [fb_ct_succ, h, nI_1, Int32.add_zero]
      rfl
    by_cases c0 : 1 ≤ a + i
    · rw [if_pos c0]
      by_cases c1 : mI σ 22 q (a + i - 1) = -1
      · rw [if_pos c1]; exact hz (by simp [mvd, c1])
      · rw [if_neg c1]
        by_cases c2 : mI σ 22 q (a + i) = -1
        · rw [if_pos c2]; exact hz (by simp [mvd, c2])
        · rw [if_neg c2]
          by_cases c3 : mI σ 22 q (a + i - 1) = mI σ 22 q (a + i)
          · rw [if_pos c3]; exact hz (by simp [mvd, c3])
          · rw [if_neg c3]
            refine ⟨_, rfl, ?_⟩
            rw [fb_ct_succ, show mvd σ q (a + i) = true by simp [mvd, c0, c1, c2, c3], nI_1, nI_1]
            rfl
    · rw [if_neg c0, if_pos rfl]
      exact hz (by simp [mvd, c0])) (fun s hs => by
    subst hs
    exact ⟨_, by simp only [kQ_movesIn_s5, show a + (b - a) = b by omega, nle (Nat.le_refl b) (by omega), if_true], rfl⟩) (s := (0, nI a, σ)) rfl
  unfold kQ_movesIn
  rw [l1, l2]
  rfl
