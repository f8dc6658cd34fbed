theorem rm_eq {σ σ' : Mem} (h31 : ∀ j, mI σ' 31 0 j = mI σ 31 0 j) (p : Nat) : isRm σ' p = isRm σ p := by
  unfold isRm
  rw [h31]
/-- a night that a change of one room's calendar does not reach -/
theorem hvN_cal {σ σ' : Mem} {p n : Nat} (h31 : ∀ j, mI σ' 31 0 j = mI σ 31 0 j) (h33 : ∀ j, mI σ' 33 0 j = mI σ 33 0 j) (h34 : ∀ j, mI σ' 34 0 j = mI σ 34 0 j) (ho : ∀ j, j ≠ p → opn σ' j n = opn σ j n) (hp : opn σ' p n = opn σ p n) : hvN σ' n = hvN σ n := by
  have h : (fun j => opn σ' j n) = (fun j => opn σ j n) := funext fun j => by
    by_cases e : j = p
    · rw [e, hp]
    · exact ho j e
  unfold hvN
  rw [h]
  unfold hvW
  simp only [h31, h33, h34]
theorem E_shut {σ : Mem} {x1 x2 x3 x4 : Int32} (hI : INV σ) (h4 : x4 = 0 ∨ x4 = 1) : EQ2 (fun σ => kG_shut σ x1 x2 x3 x4) (fun σ => kM_shut σ x1 x2 x3 x4) σ := by
  obtain ⟨N, d, P, R, hI⟩ := hI
  have hH := hI.1
  have hno : ∀ r : Int32, kG_shut σ x1 x2 x3 x4 = some (r, σ) → kM_shut σ x1 x2 x3 x4 = some (r, sI σ 30 0 0 0) → EQ2 (fun σ => kG_shut σ x1 x2 x3 x4) (fun σ => kM_shut σ x1 x2 x3 x4) σ := fun r a b => ⟨r, σ, _, a, b, N, d, P, R, hI.thr⟩
  have hH0 : HI (sI σ 30 0 0 0) := hI.thr.1
  have hrm0 : ∀ p, isRm (sI σ 30 0 0 0) p = isRm σ p := fun p => rfl
  rcases i32 x1 16 with ho | ho | ⟨p, hp, rfl⟩
  · refine hno (-1) ?_ ?_
    · unfold kG_shut; rw [roomAt_out (Or.inl ho)]; rfl
    · unfold kM_shut; rw [mRoom_out (Or.inl ho)]; rfl
  · refine hno (-1) ?_ ?_
    · unfold kG_shut; rw [roomAt_out (Or.inr ho)]; rfl
    · unfold kM_shut; rw [mRoom_out (Or.inr ho)]; rfl
  · by_cases hr : isRm σ p = true
    · obtain ⟨f0, f1, f2, f3, f4, f5, f6, f7, ⟨o, ho, eo⟩, f9⟩ := (hH p hp).2.2.2.2.2.2.1 hr
      have A1 : kH_roomAt σ (nI p) = some (some p, σ) := by rw [roomAt_in hH hp, if_pos hr]
      have A2 : kM_isRoom (sI σ 30 0 0 0) (nI p) = some (1, sI σ 30 0 0 0) := by rw [mRoom_in hp, hrm0, if_pos hr]
      by_cases hc : mI σ 37 0 p = 0
      · have hc0 : mI (sI σ 30 0 0 0) 37 0 p = 0 := hc
        rcases span_cases σ x2 x3 with ⟨a, b, hab, hb, rfl, rfl⟩ | hsp
        · obtain ⟨s, hs, es⟩ := sh_ex (mL σ 36 0 p)
          obtain ⟨g5, g6⟩ := f5 hc
          obtain ⟨d1, d2, d3, -⟩ := hI.2.2.1
          obtain ⟨p1, p2, p3, p4⟩ := hI.2.2.2.2.1
          obtain ⟨P', hP'⟩ : ∃ P', P' = max d (min P a) := ⟨_, rfl⟩
          have A3 : kG_replanFrom σ (nI a) = some ((), sI σ 1 0 7 (nI P')) := by rw [replanN d2 p1 p2 p3 (by omega), hP']
          -- what is turned
          obtain ⟨T, hT⟩ : ∃ T, T = (2 ^ (max a (min b o)) - 2 ^ a) &&& (if x4 = 1 then s ^^^ (2 ^ 64 - 1) else s) := ⟨_, rfl⟩
          have hTb : ∀ k, T.testBit k = (decide (a ≤ k ∧ k < min b o) && (s.testBit k != decide (x4 = 1))) := by
            intro k
            rw [hT, Nat.testBit_and, sp_bit (by omega)]
            by_cases c : a ≤ k ∧ k < min b o
            · have c1 : k < max a (min b o) := by omega
              rcases h4 with rfl | rfl
              · simp [c.1, c1, c]
              · rw [if_pos rfl, Nat.testBit_xor, Nat.testBit_two_pow_sub_one]
                have c2 : k < 64 := by omega
                simp [c.1, c1, c, c2]
            · have c1 : ¬ (a ≤ k ∧ k < max a (min b o)) := by omega
              have c2 : (decide (a ≤ k) && decide (k < max a (min b o))) = false := by
                rw [← Bool.not_eq_true]
                simpa using c1
              rw [c2]
              simp [c]
          have hTl : T < 2 ^ 64 := by
            rw [hT]
            have : 2 ^ (max a (min b o)) ≤ 2 ^ 60 := Nat.pow_le_pow_right (by omega) (by omega)
            exact Nat.lt_of_le_of_lt (Nat.le_trans Nat.and_le_left (Nat.sub_le _ _)) (Nat.lt_of_le_of_lt this (by decide))
          have hpop : fb_ct T.testBit (max a (min b o)) = pop T := by
            unfold pop
            rw [show 64 = max a (min b o) + (64 - max a (min b o)) by omega, fb_ct_split]
            have : fb_ct (fun k => T.testBit (max a (min b o) + k)) (64 - max a (min b o)) = 0 := fb_ct_zero.mpr (fun k _ => by
              rw [hTb]
              simp
              omega)
            omega
          have hmodT : T % 2 ^ (max a (min b o)) = T := by
            refine Nat.mod_eq_of_lt ?_
            rw [hT]
            refine Nat.lt_of_le_of_lt Nat.and_le_left ?_
            have := Nat.two_pow_pos (max a (min b o))
            have := Nat.two_pow_pos a
            omega
          -- the class
          have hcls : kG_shut σ (nI p) (nI a) (nI b) x4 = some (nI (pop T), if a < min b o then sL (sI σ 1 0 7 (nI P')) 20 p 6 (lN (s ^^^ T)) else sI σ 1 0 7 (nI P')) := by
            unfold kG_shut
            simp only [A1, Option.bind_some, Option.elim_some, f4, hc, if_true, (span_in hab hb).1, show ¬ ((1 : Int32) = 0) by decide, if_false, A3]
            unfold kR_setShut
            have e5 : mI (sI σ 1 0 7 (nI P')) 20 p 5 = nI o := by rw [mIsI, if_neg (by omega), g5, eo]
            have e6 : mL (sI σ 1 0 7 (nI P')) 20 p 6 = lN s := by rw [mLsI, g6, es]
            rw [if_neg nn0, e5, e6, jminN (by omega) (by omega)]
            by_cases c : a < min b o
            · have hm : max a (min b o) = min b o := by omega
              rw [if_pos (nI_lt c (by omega)), if_pos c]
              have hspan : ((1 : Int64) <<< ((nI (min b o)).toInt64 &&& 63)) - ((1 : Int64) <<< ((nI a).toInt64 &&& 63)) = lN (2 ^ (min b o) - 2 ^ a) := by
                rw [show (1 : Int64) = lN 1 from rfl, wb_shl 1 (by omega), wb_shl 1 (by omega), Nat.one_mul, Nat.one_mul, lN_sub (Nat.pow_le_pow_right (by omega) (by omega))]
              have hfin : ∀ y0 : Int64, (y0 = lN (if x4 = 1 then s ^^^ (2 ^ 64 - 1) else s)) → ((kR_setShut_j53 (sI σ 1 0 7 (nI P')) p y0 (lN (2 ^ (min b o) - 2 ^ a))).bind fun x => some (x.1, x.2)) = some (nI (pop T), sL (sI σ 1 0 7 (nI P')) 20 p 6 (lN (s ^^^ T))) := by
                intro y0 hy
                have hTe : lN (2 ^ (min b o) - 2 ^ a) &&& y0 = lN T := by
                  rw [hy, hT, hm, fb_andL]
                unfold kR_setShut_j53
                rw [hTe, e6, fb_xorL, bitCount_ok hTl]
                rfl
              rw [hspan]
              rcases h4 with rfl | rfl
              · rw [if_pos rfl]
                exact hfin _ (by rw [if_neg (by decide)])
              · rw [if_neg (by decide)]
                refine hfin _ ?_
                rw [if_pos rfl, show (-1 : Int64) = lN (2 ^ 64 - 1) from rfl, fb_xorL]
            · rw [if_neg (nI_nlt (by omega) (by omega)), if_neg c]
              have hp0 : pop T = 0 := by
                rw [← hpop]
                exact fb_ct_zero.mpr (fun k _ => by rw [hTb]; simp; omega)
              rw [hp0]
              rfl
          obtain ⟨σ1, hσ1⟩ : ∃ σ1, σ1 = (if a < min b o then sL (sI σ 1 0 7 (nI P')) 20 p 6 (lN (s ^^^ T)) else sI σ 1 0 7 (nI P')) := ⟨_, rfl⟩
          rw [← hσ1] at hcls
          have t0 : ¬ a < min b o → T = 0 := fun c => by
            apply Nat.eq_of_testBit_eq
            intro k
            rw [hTb]
            simp
            omega
          have k1 : ∀ t i k, (t, k) ≠ (1, 7) → mI σ1 t i k = mI σ t i k := fun t i k h => by
            rw [hσ1]
            split
            · rw [mIsL, mIsI, if_neg (fun z => h (by rw [z.1, z.2.2]))]
            · rw [mIsI, if_neg (fun z => h (by rw [z.1, z.2.2]))]
          have k2 : ∀ t i k, ¬ (t = 20 ∧ i = p ∧ k = 6) → mL σ1 t i k = mL σ t i k := fun t i k h => by
            rw [hσ1]
            split
            · rw [mLsL, if_neg h, mLsI]
            · rw [mLsI]
          have k3 : mL σ1 20 p 6 = lN (s ^^^ T) := by
            rw [hσ1]
            split
            · rw [mLsL, if_pos ⟨rfl, rfl, rfl⟩]
            · rename_i c
              rw [t0 c, Nat.xor_zero, mLsI, g6, es]
          have k4 : ∀ t i k, mR σ1 t i k = mR σ t i k := fun t i k => by
            rw [hσ1]
            split <;> rfl
          have k5 : ∀ t i, mV σ1 t i = mV σ t i := fun t i => by
            rw [hσ1]
            split <;> rfl
          have k6 : mI σ1 1 0 7 = nI P' := by
            rw [hσ1]
            split
            · rw [mIsL, mIsI, if_pos ⟨rfl, rfl, rfl⟩]
            · rw [mIsI, if_pos ⟨rfl, rfl, rfl⟩]
          -- the reference
          have r31 : ∀ j, mI (sI σ1 30 0 0 0) 31 0 j = mI σ 31 0 j := fun j => by rw [mIsI, if_neg (by omega), k1 31 0 j (by simp)]
          have B2 : kM_isRoom (sI σ1 30 0 0 0) (nI p) = some (1, sI σ1 30 0 0 0) := by rw [mRoom_in hp, rm_eq r31, if_pos hr]
          have b37 : mI (sI σ1 30 0 0 0) 37 0 p = 0 := by rw [mIsI, if_neg (by omega), k1 37 0 p (by simp), hc]
          obtain ⟨σ2, m1, m2, m3, m4⟩ := mshut_loop (σ := sI σ1 30 0 0 0) (p := p) (a := a) (b := b) (o := o) (s := s) (T := T) (on := x4) hp hab hb ho hs (by rw [mIsI, if_neg (by omega), k1 35 0 p (by simp), eo]) (by rw [mLsI, k2 36 0 p (by omega), es]) h4 hTb hTl
          rw [hmodT] at m4
          rw [hpop] at m1
          refine ⟨nI (pop T), σ1, σ2, hcls, ?_, N, d, P', R, ?_⟩
          · show kM_shut σ1 (nI p) (nI a) (nI b) x4 = _
            unfold kM_shut
            simp only [B2, Option.bind_some, show ¬ ((1 : Int32) = 0) by decide, if_false, inr_ hp, if_true, ix_ (show p < 2 ^ 31 by omega), b37, (span_in hab hb).2, m1, kM_shut_x110]
          · have q1 : ∀ t i k, t ≠ 36 → (t, k) ≠ (1, 7) → (t, k) ≠ (30, 0) → mI σ2 t i k = mI σ t i k := fun t i k h0 h1 h2 => by
              rw [m2.I t i k (by simpa using h0) (by simp), mIsI, if_neg (fun z => h2 (by rw [z.1, z.2.2])), k1 t i k h1]
            have q2 : ∀ t i k, t ≠ 36 → ¬ (t = 20 ∧ i = p ∧ k = 6) → mL σ2 t i k = mL σ t i k := fun t i k h0 h1 => by
              rw [m2.L t i k (by simpa using h0) (by simp), mLsI, k2 t i k h1]
            have q3 : ∀ t i k, t ≠ 36 → mR σ2 t i k = mR σ t i k := fun t i k h0 => by
              rw [m2.R t i k (by simpa using h0) (by simp), mRsI, k4]
            have q4 : ∀ t i, mV σ2 t i = mV σ t i := fun t i => by rw [m2.V, mVsI, k5]
            have q5 : mL σ2 20 p 6 = lN (s ^^^ T) := by rw [m2.L 20 p 6, mLsI, k3]
            have q6 : ∀ j, j ≠ p → mL σ2 36 0 j = mL σ 36 0 j := fun j hj => by rw [m3 j hj, mLsI, k2 36 0 j (by omega)]
            have w31 : ∀ j, mI σ2 31 0 j = mI σ 31 0 j := fun j => q1 31 0 j (by omega) (by simp) (by simp)
            have w33 : ∀ j, mI σ2 33 0 j = mI σ 33 0 j := fun j => q1 33 0 j (by omega) (by simp) (by simp)
            have w34 : ∀ j, mI σ2 34 0 j = mI σ 34 0 j := fun j => q1 34 0 j (by omega) (by simp) (by simp)
            have w35 : ∀ j, mI σ2 35 0 j = mI σ 35 0 j := fun j => q1 35 0 j (by omega) (by simp) (by simp)
            have w37 : ∀ j, mI σ2 37 0 j = mI σ 37 0 j := fun j => q1 37 0 j (by omega) (by simp) (by simp)
            have w20 : ∀ j k, mI σ2 20 j k = mI σ 20 j k := fun j k => q1 20 j k (by omega) (by simp) (by simp)
            refine INV'.hs hI (fun t i k h1 h2 => ?_) (fun t i _ => q4 t i) ?_ (HM_cal w31 w33 w34) ?_ (by omega) (by omega) (fun n h1 h2 => ?_)
            · have h36 : t ≠ 36 := fun z => h1 (by rw [z]; decide)
              have h20 : t ≠ 20 := fun z => h1 (by rw [z]; decide)
              simp only [List.mem_cons, List.not_mem_nil, or_false, not_or] at h2
              exact ⟨q1 t i k h36 h2.1 h2.2, q2 t i k h36 (fun z => h20 z.1), q3 t i k h36⟩
            · refine HI_cal hH hp hr (fun j => q3 3 0 j (by omega)) (fun j => q1 4 0 j (by omega) (by simp) (by simp)) (fun j => q4 20 j) w31 (fun j => q1 32 0 j (by omega) (by simp) (by simp)) w33 w34 (fun j k _ => w20 j k) (fun j hj => ⟨w20 j 4, w20 j 5, q2 20 j 6 (by omega) (fun z => hj z.2.1), w35 j, q6 j hj, w37 j⟩) ?_ ?_ ?_ ?_ ⟨o, ho, by rw [w35, eo]⟩
              · rw [w37]; exact Or.inl hc
              · rw [w20, w37, f4]
              · intro _
                rw [w20, w35, q5, m4]
                exact ⟨g5, rfl⟩
              · intro z
                rw [w37, hc] at z
                exact absurd z (by decide)
            · rw [m2.I 1 0 7, mIsI, if_neg (by omega), k6]
            · refine hvN_cal (p := p) w31 w33 w34 (fun j hj => ?_) ?_
              · unfold opn
                rw [rm_eq w31, w37, w35, q6 j hj]
              · unfold opn
                rw [rm_eq w31, w37, w35, m4, es, bitL (show n < 64 by omega), bitL (show n < 64 by omega), Nat.testBit_xor, hTb n]
                have : ¬ a ≤ n := by omega
                simp [this]
        · refine hno (-1) ?_ ?_
          · unfold kG_shut
            simp only [A1, Option.bind_some, Option.elim_some, f4, hc, if_true, (hsp _).1]
          · unfold kM_shut
            simp only [A2, Option.bind_some, show ¬ ((1 : Int32) = 0) by decide, if_false, inr_ hp, if_true, ix_ (show p < 2 ^ 31 by omega), hc0, (hsp _).2]
      · have hc0 : ¬ mI (sI σ 30 0 0 0) 37 0 p = 0 := hc
        refine hno (-1) ?_ ?_
        · unfold kG_shut
          simp only [A1, Option.bind_some, Option.elim_some, f4, hc, if_false]
        · unfold kM_shut
          simp only [A2, Option.bind_some, show ¬ ((1 : Int32) = 0) by decide, if_false, inr_ hp, if_true, ix_ (show p < 2 ^ 31 by omega), hc0]
    · refine hno (-1) ?_ ?_
      · unfold kG_shut; rw [roomAt_in hH hp, if_neg hr]; rfl
      · unfold kM_shut; rw [mRoom_in hp, hrm0, if_neg hr]; rfl
