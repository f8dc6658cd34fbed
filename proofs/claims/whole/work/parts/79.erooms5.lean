theorem oK_eq {σ σ' : Mem} {x1 : Int32} {n : Nat} (h31 : ∀ k, mI σ' 31 0 k = mI σ 31 0 k) (h37 : ∀ k, mI σ' 37 0 k = mI σ 37 0 k) (h35 : ∀ k, mI σ' 35 0 k = mI σ 35 0 k) (h36 : ∀ k, mL σ' 36 0 k = mL σ 36 0 k) (p : Nat) : oK σ' x1 n p = oK σ x1 n p := by
  unfold oK opn isRm
  rw [h31, h37, h35, h36]
theorem E_rooms {σ : Mem} {x1 x2 x3 : Int32} (hI : INV σ) : EQ2 (fun σ => kG_rooms σ x1 x2 x3) (fun σ => kM_rooms σ x1 x2 x3) σ := by
  obtain ⟨N, d, P, R, hI⟩ := hI
  have hN := hI.2.1.1
  have hno : kG_rooms σ x1 x2 x3 = some (-1, σ) → kM_rooms σ x1 x2 x3 = some (-1, sI σ 30 0 0 0) → EQ2 (fun σ => kG_rooms σ x1 x2 x3) (fun σ => kM_rooms σ x1 x2 x3) σ := fun a b => ⟨-1, σ, _, a, b, N, d, P, R, hI.thr⟩
  rcases i32 x1 4 with h | h | ⟨k, hk, rfl⟩
  · exact hno (if_pos h) (if_pos h)
  · have h0 : ¬ x1 < 0 := fun z => absurd (Int32.lt_of_le_of_lt h z) (by decide)
    have h3 : (3 : Int32) < x1 := Int32.lt_of_lt_of_le (show (3 : Int32) < nI 4 by decide) h
    exact hno ((if_neg h0).trans (if_pos h)) ((if_neg h0).trans (if_pos h3))
  · have h0 : ¬ nI k < 0 := nn0
    have h3 : ¬ (3 : Int32) < nI k := nI_nlt (a := 3) (b := k) (by omega) (by decide)
    have h4 : ¬ (4 : Int32) ≤ nI k := nge (show k < 4 by omega)
    have outn : (x2 < 0 ∨ nI 60 ≤ x2) → EQ2 (fun σ => kG_rooms σ (nI k) x2 x3) (fun σ => kM_rooms σ (nI k) x2 x3) σ := fun ho =>
      hno ((if_neg h0).trans ((if_neg h4).trans ((bnd (isNight_out ho)).trans rfl))) ((if_neg h0).trans ((if_neg h3).trans ((bnd (mNight_out ho)).trans rfl)))
    rcases i32 x2 60 with h | h | ⟨n, hn, rfl⟩
    · exact outn (Or.inl h)
    · exact outn (Or.inr h)
    · have hk0 : (0 : Int32) ≤ nI k := Int32.not_lt.mp h0
      have hk4 : nI k < 4 := Int32.not_le.mp h4
      have goC : ∀ r, (if x3 = 0 then (kH_openUnits σ (nI k) (nI n)).bind (fun x => (fun (r3 : Int32) (σ4 : Mem) => some (r3, σ4)) x.1 x.2) else if x3 = 1 then (kG_planUpTo σ (nI n)).bind (fun x => (fun (_ : Unit) (σ6 : Mem) => (kG_takenUnits σ6 (nI k) (nI n)).bind (fun x => (fun (r7 : Int32) (σ8 : Mem) => some (r7, σ8)) x.1 x.2)) x.1 x.2) else some ((-1), σ)) = r → kG_rooms σ (nI k) (nI n) x3 = r := fun r h => (if_neg h0).trans ((if_neg h4).trans ((bnd (isNight_in hn)).trans ((if_neg (show ¬ ((1 : Int32) = 0) by decide)).trans h)))
      have goM : ∀ (τ : Mem) r, (if x3 < 0 then some ((-1), sI τ 30 0 0 0) else if x3 ≤ 1 then (kM_plans (sI τ 30 0 0 0)).bind (fun x => (fun (_ : Unit) (σ4 : Mem) => (loopF FU (kM_rooms_s42 (nI k) (nI n) x3) (0, 0, σ4)).bind (fun s => kM_rooms_x128 s.2 s.1)) x.1 x.2) else some ((-1), sI τ 30 0 0 0)) = r → kM_rooms τ (nI k) (nI n) x3 = r := fun τ r h => (if_neg h0).trans ((if_neg h3).trans ((bnd (mNight_in hn)).trans ((if_neg (show ¬ ((1 : Int32) = 0) by decide)).trans h)))
      by_cases e0 : x3 = 0
      · obtain ⟨d1, d2, d3, -⟩ := hI.2.2.1
        have hI1 : INV' (sI σ 30 0 0 0) N d P R := hI.thr
        obtain ⟨σ2, b1, b2, b3, b4⟩ := plans_ok hI1.1 hI1.2.1 d1 (hI1.2.2.1).2.2.1 hI1.2.2.2.1
        have hI2 := hI1.mp b2 b3
        have cl := openUnits_ok (x1 := nI k) hI.1 hn
        have ml := mrooms_loop (σ := σ2) (x1 := nI k) (x3 := x3) (W := fun _ _ => 1) hI2.1 hn hk0 hk4 (fun p _ _ b _ => Or.inl ⟨e0, rfl⟩)
        have ee : fb_sm (fun p => if oK σ2 (nI k) n p = true then fb_sm (fun _ => 1) (uNp σ2 p) else 0) 16 = fb_sm (fun p => if oK σ (nI k) n p = true then uNp σ p else 0) 16 := fb_sm_cong fun p _ => by
          rw [fb_sm_const, Nat.mul_one]
          rw [oK_eq (σ := σ) (fun k => by rw [Fx.I b2 31 0 k, mIsI, if_neg (by omega)]) (fun k => by rw [Fx.I b2 37 0 k, mIsI, if_neg (by omega)]) (fun k => by rw [Fx.I b2 35 0 k, mIsI, if_neg (by omega)]) (fun k => by rw [Fx.L b2 36 0 k, mLsI]) p]
          unfold uNp
          rw [hvS_fx b2 rfl]
          rfl
        rw [ee] at ml
        refine ⟨nI (fb_sm (fun p => if oK σ (nI k) n p = true then uNp σ p else 0) 16), σ, σ2, goC _ ((if_pos e0).trans ((bnd cl).trans rfl)), goM σ _ ?_, N, d, P, R, hI2⟩
        refine (if_neg (show ¬ x3 < 0 by rw [e0]; decide)).trans ((if_pos (show x3 ≤ 1 by rw [e0]; decide)).trans ?_)
        exact (bnd b1).trans ((bnd ml).trans rfl)
      · by_cases e1 : x3 = 1
        · obtain ⟨σ1, P', a1, a2, a3, σ2, b1, b2, b3, b4, b5⟩ := both_plan (x := nI n) hI
          obtain ⟨hnv, h49⟩ := b4 n hn
          have h22 := b5 n (a3 n hn (Or.inl rfl)) hn
          obtain ⟨f, hf⟩ : ∃ f, f = hist σ2 N n := ⟨_, rfl⟩
          rw [← hf] at hnv h49
          -- what each spot is
          have key : ∀ q s, q < N → f q = some s → s < 512 ∧ s % 4 ≤ 1 ∧ s % 32 / 4 < uNp σ2 (s / 32) ∧ (s % 4 = 1 → mI σ2 34 0 (s / 32) = nI (s / 32 + 1) ∧ s / 32 + 1 < 16 ∧ uNp σ2 (s / 32 + 1) = 1) := fun q s hq hs => by
            obtain ⟨u0, u1, u2, u3, u4, u5, u6, u7, u8⟩ := suS_iff.mp (hnv.1 q hq s hs)
            refine ⟨u1, u2, u5, fun c => ?_⟩
            have hr : isRm σ2 (s / 32) = true := u0
            obtain ⟨v1, v2⟩ := u8 (u3.mp c)
            have v2 : (if isRm σ2 (s / 32) = true then (if mI σ2 34 0 (s / 32) = -1 then 99 else ix (mI σ2 34 0 (s / 32))) else 0) = s / 32 + 1 := v2
            rw [if_pos hr] at v2
            obtain ⟨-, -, -, -, -, -, -, w⟩ := b2.1 (s / 32) (by omega)
            rcases w with w | ⟨w0, w1, w2, w3, w4⟩ | ⟨w0, w1, w2, w3, w4⟩
            · rw [if_pos w] at v2; omega
            · refine ⟨w1, w0, ?_⟩
              have hr2 : isRm σ2 (s / 32 + 1) = true := (rm_iff w0).mpr ⟨by rw [w4]; decide, by rw [w4]; decide⟩
              show (if isRm σ2 (s / 32 + 1) = true then (if mI σ2 31 0 (s / 32 + 1) = 3 then ix (mI σ2 33 0 (s / 32 + 1)) else 1) else 0) = 1
              rw [if_pos hr2, w4, if_neg (by decide)]
            · have nm : ¬ mI σ2 34 0 (s / 32) = -1 := by rw [w1]; exact nm512 _ (by omega)
              rw [if_neg nm, w1, ix_] at v2
              omega
          have hcl := taken_ok (σ := σ1) (x1 := nI k) (f := f) a2.1 a2.2.1 hn (fun q hq => by rw [h22 q hq, h49 q hq]) (fun q s hq hs => by
            obtain ⟨k1, k2, -, k4⟩ := key q s hq hs
            exact ⟨k1, k2, fun c => (k4 c).2.1⟩)
          have eo : ∀ p, oK σ2 (nI k) n p = oK σ1 (nI k) n p := oK_eq (fun k => by rw [Fx.I b3 31 0 k, mIsI, if_neg (by omega)]) (fun k => by rw [Fx.I b3 37 0 k, mIsI, if_neg (by omega)]) (fun k => by rw [Fx.I b3 35 0 k, mIsI, if_neg (by omega)]) (fun k => by rw [Fx.L b3 36 0 k, mLsI])
          have hone : ∀ p b, fb_ct (fun q => oB (f q) p b) N ≤ 1 := fun p b => ct_one (fun i j hi hj pi pj => Classical.byContradiction fun hne => by
            cases ei : f i with
            | none => rw [ei] at pi; cases pi
            | some s => cases ej : f j with
              | none => rw [ej] at pj; cases pj
              | some s' =>
                rw [ei, oB_occ] at pi
                rw [ej, oB_occ] at pj
                exact hnv.2 i j s s' hi hj hne ei ej p b ⟨pi, pj⟩)
          have ml := mrooms_loop (σ := σ2) (x1 := nI k) (x3 := x3) (W := fun p b => fb_ct (fun q => oB (f q) p b) N) b2.1 hn hk0 hk4 (fun p hp hoK b hb => by
            refine Or.inr ⟨e0, ?_, hone p b⟩
            have hb8 : b < 8 := by
              obtain ⟨u, u1, u2, -, u4, -⟩ := units_in b2.1 (oK_rm hoK)
              have : uNp σ2 p = u := u4.symm
              omega
            rw [somebody_ok hN b2.2.1.2.2.1 hn hp hb8 h49 (fun q s hq hs => by
              obtain ⟨k1, k2, -, k4⟩ := key q s hq hs
              refine ⟨k1, k2, fun c => ⟨(k4 c).1, fun z => ?_⟩⟩
              have := (k4 c).2.2
              rw [z] at hb
              omega)]
            by_cases z : fb_ct (fun q => oB (f q) p b) N = 0
            · rw [if_pos z, z]; rfl
            · have z1 : fb_ct (fun q => oB (f q) p b) N = 1 := by have := hone p b; omega
              rw [if_neg z, z1]; rfl)
          have ee : fb_sm (fun p => if oK σ2 (nI k) n p = true then fb_sm (fun b => fb_ct (fun q => oB (f q) p b) N) (uNp σ2 p) else 0) 16 = fb_sm (fun q => tk1 σ1 (nI k) n (f q)) N := by
            have s1 : ∀ q, q < N → tk1 σ1 (nI k) n (f q) = fb_sm (fun p => if oK σ2 (nI k) n p = true then fb_sm (fun b => if oB (f q) p b = true then 1 else 0) (uNp σ2 p) else 0) 16 := fun q hq => by
              rw [tk1_sum (σ := σ2) (fun s hs => by
                obtain ⟨k1, k2, k3, k4⟩ := key q s hq hs
                exact ⟨by omega, k3, fun c => ⟨(k4 c).2.1, by rw [(k4 c).2.2]; omega⟩⟩)]
              unfold tk1
              simp only [eo]
            rw [fb_sm_cong s1, ← sm_swap (fun p q => if oK σ2 (nI k) n p = true then fb_sm (fun b => if oB (f q) p b = true then 1 else 0) (uNp σ2 p) else 0) N 16]
            refine fb_sm_cong fun p _ => ?_
            by_cases c : oK σ2 (nI k) n p = true
            · simp only [c, if_true]
              rw [← sm_swap (fun b q => if oB (f q) p b = true then 1 else 0) N (uNp σ2 p)]
              exact fb_sm_cong fun b _ => ctsm _ N
            · simp only [c, if_false]
              exact (sm_none (fun _ _ => rfl)).symm
          rw [ee] at ml
          refine ⟨nI (fb_sm (fun q => tk1 σ1 (nI k) n (f q)) N), σ1, σ2, goC _ ((if_neg e0).trans ((if_pos e1).trans ((bnd a1).trans ((bnd hcl).trans rfl)))), goM σ1 _ ?_, N, d, P', R, b2⟩
          refine (if_neg (show ¬ x3 < 0 by rw [e1]; decide)).trans ((if_pos (show x3 ≤ 1 by rw [e1]; decide)).trans ?_)
          exact (bnd b1).trans ((bnd ml).trans rfl)
        · refine hno (goC _ ((if_neg e0).trans (if_neg e1))) (goM σ _ ?_)
          by_cases c : x3 < 0
          · exact if_pos c
          · refine (if_neg c).trans (if_neg (fun z => ?_))
            rcases i32 x3 2 with y | y | ⟨j, hj, rfl⟩
            · exact c y
            · exact absurd (Int32.le_trans y z) (by decide)
            · have : j = 0 ∨ j = 1 := by omega
              rcases this with rfl | rfl
              · exact e0 rfl
              · exact e1 rfl
