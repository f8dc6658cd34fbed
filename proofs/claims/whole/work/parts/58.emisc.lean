theorem WLi_eq {σ σ' : Mem} (h40 : ∀ k, mI σ' 40 0 k = mI σ 40 0 k) (h41 : ∀ k, mI σ' 41 0 k = mI σ 41 0 k) (h43 : ∀ k, mI σ' 43 0 k = mI σ 43 0 k) (h44 : ∀ k, mI σ' 44 0 k = mI σ 44 0 k) (n : Nat) : ∀ i, WLi σ' n i = WLi σ n i
  | 0 => rfl
  | i + 1 => by
    show WLi σ' n i ++ _ = WLi σ n i ++ _
    rw [WLi_eq h40 h41 h43 h44 n i]
    unfold wnt pe wq
    rw [h40, h41, h43, h44]
theorem INV'.tf {σ σ' : Mem} {N d P R R' : Nat} (hI : INV' σ N d P R) (g : ∀ t i k, t ∉ TT2 → (t, k) ∉ [(30, 32), (30, 0)] → mI σ' t i k = mI σ t i k ∧ mL σ' t i k = mL σ t i k ∧ mR σ' t i k = mR σ t i k) (v : ∀ t i, t ≠ 23 → mV σ' t i = mV σ t i) (hT : TI σ' R') : INV' σ' N d P R' := by
  obtain ⟨i1, i2, i3, i4, i5, i6, i7, i8⟩ := hI
  have h : Fx TT2 [(30, 32), (30, 0)] σ (σ'.1, σ'.2.1, σ'.2.2.1, σ.2.2.2) := ⟨g, fun _ _ => rfl⟩
  refine ⟨fun p hp => ?_, ?_, ?_, ?_, ?_, ?_, hT, ?_⟩
  · have h0 := HI.fx h rfl i1 p hp
    unfold HIp at h0 ⊢
    rw [v 20 p (by omega)]
    exact h0
  · obtain ⟨b1, b2, b3, b4, b5⟩ := BI.fx h rfl rfl i2
    exact ⟨b1, b2, b3, b4, fun q hq => by rw [v 21 q (by omega), v 22 q (by omega)]; exact i2.2.2.2.2 q hq⟩
  · unfold DI at i3 ⊢
    rw [(g 1 0 5 (by decide) (by simp)).1, (g 30 0 8 (by decide) (by simp)).1, (g 1 0 6 (by decide) (by simp)).1, (g 30 0 9 (by decide) (by simp)).1]
    exact i3
  · exact HS_eq (σ' := (σ'.1, σ'.2.1, σ'.2.2.1, σ.2.2.2)) (fun q n _ _ => h.hI (ts := [22]) rfl 22 q n) (fun q n _ => h.hI (ts := [49]) rfl 49 0 _) (fun f hf => NV_eq (hvS_fx h rfl) (fun q _ => wq_fx h rfl q) hf) i4
  · obtain ⟨a, b, c, e⟩ := i5
    refine ⟨by rw [(g 1 0 7 (by decide) (by simp)).1]; exact a, b, c, fun n h1 h2 q hq => ?_⟩
    rw [(g 22 q n (by decide) (by simp)).1]
    rw [PS_cong (σ' := σ') (σ := σ) (N' := N) (n - d) (fun n _ _ => ⟨show hvN σ' n = hvN σ n from hvN_fx h rfl n, WLi_eq (fun k => (g 40 0 k (by decide) (by simp)).1) (fun k => (g 41 0 k (by decide) (by simp)).1) (fun k => (g 43 0 k (by decide) (by simp)).1) (fun k => (g 44 0 k (by decide) (by simp)).1) n N⟩) (fun _ q => by unfold hist; rw [(g 49 0 _ (by decide) (by simp)).1])]
    exact e n h1 h2 q hq
  · intro q hq
    rw [(g 46 0 q (by decide) (by simp)).1, (g 47 0 q (by decide) (by simp)).1, (had_eq (fun n _ => (g 22 q n (by decide) (by simp)).1)).1, (had_eq (fun n _ => (g 22 q n (by decide) (by simp)).1)).2]
    exact i6 q hq
  · unfold LV
    rw [v 0 0 (by omega), v 1 0 (by omega), v 30 0 (by omega)]
    exact i8
theorem E_over {σ : Mem} {x1 : Int32} (hI : INV σ) : EQ2 (fun σ => kG_over σ x1) (fun σ => kM_over σ x1) σ := by
  obtain ⟨N, d, P, R, hI⟩ := hI
  by_cases c0 : x1 < 0
  · exact ⟨0, σ, sI σ 30 0 0 0, by show kG_over σ x1 = _; unfold kG_over; rw [if_pos c0], by show kM_over σ x1 = _; unfold kM_over; rw [if_pos c0], N, d, P, R, hI.thr⟩
  · by_cases c1 : x1 ≤ 40
    · refine ⟨1, sI σ 1 0 6 x1, sI (sI (sI σ 1 0 6 x1) 30 0 0 0) 30 0 9 x1, by show kG_over σ x1 = _; unfold kG_over; rw [if_neg c0, if_pos c1], by show kM_over _ x1 = _; unfold kM_over; rw [if_neg c0, if_pos c1], N, d, P, R, ?_⟩
      obtain ⟨o, ho, rfl⟩ := nI_of2 (M := 40) (n := 40) (by decide) c0 c1
      obtain ⟨i1, i2, i3, i4, i5, i6, i7, i8⟩ := hI
      have h : Fx [] [(1, 6), (30, 0), (30, 9)] σ (sI (sI (sI σ 1 0 6 (nI o)) 30 0 0 0) 30 0 9 (nI o)) := ((Fx.rf.sI).sI).sI
      refine ⟨HI.fx h rfl i1, BI.fx h rfl rfl i2, ?_, ?_, ?_, ?_, TI.fx h rfl rfl i7, i8⟩
      · obtain ⟨a, b, c, -⟩ := i3
        exact ⟨a, by simp [mIsI, mIsL, mIsR, mIsV, mIfI, mIsW, mLsI, mLsL, mLsR, mLsV, mLfI, mLsW, mRsI, mRsL, mRsR, mRsV, mRfI, mRsW, mVsI, mVsL, mVsR, mVsV, mVfI, mVsW]; exact b, by simp [mIsI, mIsL, mIsR, mIsV, mIfI, mIsW, mLsI, mLsL, mLsR, mLsV, mLfI, mLsW, mRsI, mRsL, mRsR, mRsV, mRfI, mRsW, mVsI, mVsL, mVsR, mVsV, mVfI, mVsW]; exact c, o, ho, by simp [mIsI, mIsL, mIsR, mIsV, mIfI, mIsW, mLsI, mLsL, mLsR, mLsV, mLfI, mLsW, mRsI, mRsL, mRsR, mRsV, mRfI, mRsW, mVsI, mVsL, mVsR, mVsV, mVfI, mVsW], by simp [mIsI, mIsL, mIsR, mIsV, mIfI, mIsW, mLsI, mLsL, mLsR, mLsV, mLfI, mLsW, mRsI, mRsL, mRsR, mRsV, mRfI, mRsW, mVsI, mVsL, mVsR, mVsV, mVfI, mVsW]⟩
      · exact HS_eq (fun q n _ _ => h.hI (ts := [22]) rfl 22 q n) (fun q n _ => h.hI (ts := [49]) rfl 49 0 _) (fun f hf => NV_eq (hvS_fx h rfl) (fun q _ => wq_fx h rfl q) hf) i4
      · obtain ⟨a, b, c, e⟩ := i5
        refine ⟨by rw [h.sI_ (t := 1) (k := 7) 0 rfl]; exact a, b, c, fun n h1 h2 q hq => ?_⟩
        rw [h.hI (ts := [22]) rfl 22 q n, PS_fx h rfl rfl rfl]
        exact e n h1 h2 q hq
      · intro q hq
        rw [h.hI (ts := [46]) rfl 46 0 q, h.hI (ts := [47]) rfl 47 0 q, (had_eq (fun n _ => h.hI (ts := [22]) rfl 22 q n)).1, (had_eq (fun n _ => h.hI (ts := [22]) rfl 22 q n)).2]
        exact i6 q hq
    · exact ⟨0, σ, sI σ 30 0 0 0, by show kG_over σ x1 = _; unfold kG_over; rw [if_neg c0, if_neg c1], by show kM_over σ x1 = _; unfold kM_over; rw [if_neg c0, if_neg c1], N, d, P, R, hI.thr⟩
/-! wishes -/
theorem wish_cases {σ : Mem} {d : Nat} {x1 x2 x3 : Int32} (hd : mI σ 1 0 5 = nI d) (hd60 : d < 60) : (∃ w a b, w < 5 ∧ d ≤ a ∧ a < b ∧ b ≤ 60 ∧ x1 = nI w ∧ x2 = nI a ∧ x3 = nI b ∧ kG_isWish σ x1 x2 x3 = some (1, σ) ∧ ∀ τ, mI τ 30 0 8 = nI d → kM_isWish τ x1 x2 x3 = some (1, τ)) ∨ (kG_isWish σ x1 x2 x3 = some (0, σ) ∧ ∀ τ, mI τ 30 0 8 = nI d → kM_isWish τ x1 x2 x3 = some (0, τ)) := by
  have hm : ∀ τ, mI τ 30 0 8 = nI d → kM_isWish τ x1 x2 x3 = if x1 < 0 then some (0, τ) else if 5 ≤ x1 then some (0, τ) else if x2 < nI d then some (0, τ) else if x3 ≤ x2 then some (0, τ) else if 60 < x3 then some (0, τ) else some (1, τ) := fun τ h => by
    unfold kM_isWish
    rw [h]
  have hc : kG_isWish σ x1 x2 x3 = if x1 < 0 then some (0, σ) else if 5 ≤ x1 then some (0, σ) else if x2 < nI d then some (0, σ) else if x3 ≤ x2 then some (0, σ) else if 60 < x3 then some (0, σ) else some (1, σ) := by
    unfold kG_isWish kG_isWant
    by_cases c0 : x1 < 0
    · simp [c0]
    · by_cases c1 : 5 ≤ x1
      · simp [c0, c1]
      · simp [c0, c1, hd]
  by_cases c0 : x1 < 0
  · exact Or.inr ⟨by rw [hc, if_pos c0], fun τ h => by rw [hm τ h, if_pos c0]⟩
  · by_cases c1 : 5 ≤ x1
    · exact Or.inr ⟨by rw [hc, if_neg c0, if_pos c1], fun τ h => by rw [hm τ h, if_neg c0, if_pos c1]⟩
    · by_cases c2 : x2 < nI d
      · exact Or.inr ⟨by rw [hc, if_neg c0, if_neg c1, if_pos c2], fun τ h => by rw [hm τ h, if_neg c0, if_neg c1, if_pos c2]⟩
      · by_cases c3 : x3 ≤ x2
        · exact Or.inr ⟨by rw [hc, if_neg c0, if_neg c1, if_neg c2, if_pos c3], fun τ h => by rw [hm τ h, if_neg c0, if_neg c1, if_neg c2, if_pos c3]⟩
        · by_cases c4 : 60 < x3
          · exact Or.inr ⟨by rw [hc, if_neg c0, if_neg c1, if_neg c2, if_neg c3, if_pos c4], fun τ h => by rw [hm τ h, if_neg c0, if_neg c1, if_neg c2, if_neg c3, if_pos c4]⟩
          · refine Or.inl ?_
            obtain ⟨w, hw, rfl⟩ := nI_of c0
            have c2' : ¬ x2 < 0 := fun z => c2 (Int32.lt_of_lt_of_le z (nI_pos' (by omega)))
            obtain ⟨a, ha, rfl⟩ := nI_of c2'
            have c3' : ¬ x3 < 0 := fun z => c3 (Int32.le_of_lt (Int32.lt_of_lt_of_le z (nI_pos' ha)))
            obtain ⟨b, hb, rfl⟩ := nI_of c3'
            refine ⟨w, a, b, ?_, ?_, ?_, ?_, rfl, rfl, rfl, ?_, ?_⟩
            · have := mt (nI_leI (a := 5) (by decide) hw).mpr c1; omega
            · have := mt (nI_ltI ha (show d < 2 ^ 31 by omega)).mpr c2; omega
            · have := mt (nI_leI hb ha).mpr c3; omega
            · have := mt (nI_ltI (a := 60) (by decide) hb).mpr c4; omega
            · rw [hc, if_neg c0, if_neg c1, if_neg c2, if_neg c3, if_neg c4]
            · intro τ h
              rw [hm τ h, if_neg c0, if_neg c1, if_neg c2, if_neg c3, if_neg c4]
theorem costOf_ok {σ : Mem} {R d w a b : Nat} (hT : TI σ R) (hw : w < 5) (hd : d ≤ a) (hab : a < b) (hb : b ≤ 60) : kT_costOf σ (nI w) (nI a) (nI b) (nI d) = some (if mE σ R b = true then lN (cst σ R d w a b) else -1, σ) := by
  have hloop : loopF FU (kT_costOf_s33 (nI w) (nI a) (nI b) (nI d)) (0, nI a, σ) = some (lN (Sm σ w a (b - a)), σ) := by
    refine lp_eq (fun i => (lN (Sm σ w a i), nI (a + i), σ)) _ (b - a) (by omega) (fun i hi => ?_) ?_
    · have hp := prc_nI (n := a + i) hT hw (by omega)
      have h16 : mI σ 16 w (a + i) = nI (prc σ w (a + i)) := by rw [(hT.2.2.2.1 w hw (a + i) (by omega)).1, hp.1]
      simp only [kT_costOf_s33, nge (show a + i < b by omega) (by omega), if_false, inr_ hw, inr_ (show a + i < 60 by omega), if_true, ix_ (show w < 2 ^ 31 by omega), ix_ (show a + i < 2 ^ 31 by omega), h16, nI_l (show prc σ w (a + i) < 2 ^ 31 by omega), lN_add, nI_1]
      rfl
    · rw [show a + (b - a) = b by omega]
      simp only [kT_costOf_s33, nle (Nat.le_refl b) (by omega), if_true]
  unfold kT_costOf
  simp only [isWant_in hw, Option.bind_some, show ¬ ((1 : Int32) = 0) by decide, if_false, (span_in (show a ≤ b by omega) hb).1, mayEnd_ok hT]
  by_cases c : mE σ R b = true
  · have hbd := (cst_bd (d := d) hT hw (show a ≤ b by omega) hb).1
    simp only [c, if_true, show ¬ ((1 : Int32) = 0) by decide, if_false, hloop, Option.bind_some]
    unfold kT_costOf_x60
    rw [pk_sub (show a ≤ b by omega), pk_sub hd, costBy_ok hT (by omega)]
    rfl
  · simp only [c, Bool.false_eq_true, if_false, if_true]
theorem E_cost {σ : Mem} {x1 x2 x3 : Int32} (hI : INV σ) : EQ2 (fun σ => kG_cost σ x1 x2 x3) (fun σ => kM_cost σ x1 x2 x3) σ := by
  obtain ⟨N, d, P, R, hI⟩ := hI
  obtain ⟨d1, d2, d3, -⟩ := hI.2.2.1
  have hT := hI.2.2.2.2.2.2.1
  have hI0 : INV' (sI σ 30 0 0 0) N d P R := hI.thr
  have d3' : mI (sI σ 30 0 0 0) 30 0 8 = nI d := d3
  rcases wish_cases (x1 := x1) (x2 := x2) (x3 := x3) d2 d1 with ⟨w, a, b, hw, ha, hab, hb, rfl, rfl, rfl, c1, c2⟩ | ⟨c1, c2⟩
  · refine ⟨if mE σ R b = true then lN (cst σ R d w a b) else -1, σ, sI σ 30 0 0 0, ?_, ?_, N, d, P, R, hI0⟩
    · show kG_cost σ _ _ _ = _
      unfold kG_cost
      simp only [c1, Option.bind_some, show ¬ ((1 : Int32) = 0) by decide, if_false, d2, costOf_ok hT hw ha hab hb]
    · show kM_cost σ _ _ _ = _
      unfold kM_cost
      have h := mcost_ok (d := d) (a := a) (b := b) hI0.2.2.2.2.2.2.1 d3' hw ha hab hb
      rw [mE_fx (Fx.rf.sI (l := []) (m := [(30, 0)])) rfl, wcost_fx (Fx.rf.sI (l := []) (m := [(30, 0)])) rfl] at h
      simp only [c2 _ d3', Option.bind_some, show ¬ ((1 : Int32) = 0) by decide, if_false, h]
  · refine ⟨-1, σ, sI σ 30 0 0 0, ?_, ?_, N, d, P, R, hI0⟩
    · show kG_cost σ _ _ _ = _
      unfold kG_cost
      simp only [c1, Option.bind_some, if_true]
    · show kM_cost σ _ _ _ = _
      unfold kM_cost
      simp only [c2 _ d3', Option.bind_some, if_true]
theorem E_least {σ : Mem} {x1 x2 x3 x4 : Int32} (hI : INV σ) : EQ2 (fun σ => kG_least σ x1 x2 x3 x4) (fun σ => kM_least σ x1 x2 x3 x4) σ := by
  obtain ⟨N, d, P, R, hI⟩ := hI
  obtain ⟨d1, d2, d3, -⟩ := hI.2.2.1
  have hT := hI.2.2.2.2.2.2.1
  have hI0 : INV' (sI σ 30 0 0 0) N d P R := hI.thr
  have d3' : mI (sI σ 30 0 0 0) 30 0 8 = nI d := d3
  rcases wish_cases (x1 := x1) (x2 := x2) (x3 := x3) d2 d1 with ⟨w, a, b, hw, ha, hab, hb, rfl, rfl, rfl, c1, c2⟩ | ⟨c1, c2⟩
  · have hend : ∀ σ1 σ2, Fx [18, 19] [] σ σ1 → Fx [63, 64] [] (sI σ1 30 0 0 0) σ2 → INV σ2 := fun σ1 σ2 h1 h2 => ⟨N, d, P, R, (hI.scr (h1.wk (by decide) (by decide))).thr.scr (h2.wk (by decide) (by decide))⟩
    have hmod : ∀ σ1, Fx [18, 19] [] σ σ1 → ∃ σ2, kM_ways (sI σ1 30 0 0 0) (nI w) (nI a) (nI b) = some ((), σ2) ∧ Fx [63, 64] [] (sI σ1 30 0 0 0) σ2 ∧ mL σ2 63 0 b = ec (lst σ R d w a b) ∧ ∀ y, lst σ R d w a b = some y → mI σ2 64 0 b = nI y.2 := fun σ1 h1 => by
      have hF : Fx [18, 19] [(30, 0)] σ (sI σ1 30 0 0 0) := (h1.wk (l' := [18, 19]) (m' := [(30, 0)]) rfl rfl).sI
      obtain ⟨σ2, m1, m2, m3, m4⟩ := ways_ok (d := d) (TI.fx hF rfl rfl hT) (by rw [hF.I 30 0 8]; exact d3) hw ha hab hb
      rw [lst_fx hF rfl] at m3 m4
      exact ⟨σ2, m1, m2, m3, m4⟩
    have hlb : ∀ y, lst σ R d w a b = some y → y.1 < 2 ^ 63 ∧ y.2 ≤ 60 := fun y hy => by
      obtain ⟨x1, x2, x3, x4⟩ := tbl_bd hT hw (b - a) (by omega) b y hy
      exact ⟨by omega, by omega⟩
    by_cases w0 : x4 = 0
    · obtain ⟨σ1, k1, k2⟩ := leastCost_ok hT hw ha hab hb
      obtain ⟨σ2, m1, m2, m3, m4⟩ := hmod σ1 k2
      refine ⟨ec (lst σ R d w a b), σ1, σ2, ?_, ?_, hend σ1 σ2 k2 m2⟩
      · show kG_least σ _ _ _ x4 = _
        unfold kG_least
        simp only [c1, Option.bind_some, show ¬ ((1 : Int32) = 0) by decide, if_false, w0, if_true, d2, k1]
      · show kM_least σ1 _ _ _ x4 = _
        have d3s : mI (sI σ1 30 0 0 0) 30 0 8 = nI d := by rw [mIsI, if_neg (by omega), k2.I 30 0 8]; exact d3
        unfold kM_least
        simp only [c2 _ d3s, Option.bind_some, show ¬ ((1 : Int32) = 0) by decide, if_false, w0, show ¬ ((0 : Int32) < 0) by decide, show (0 : Int32) ≤ 1 by decide, if_true, m1, inr_ (show b < 61 by omega), ix_ (show b < 2 ^ 31 by omega), m3, cmp0]
        split
        · rename_i e; rw [e]
        · rfl
    · by_cases w1 : x4 = 1
      · obtain ⟨σ1, k1, k2⟩ := leastParts_ok hT hw ha hab hb
        obtain ⟨σ2, m1, m2, m3, m4⟩ := hmod σ1 k2
        refine ⟨(pp (lst σ R d w a b)).toInt64, σ1, σ2, ?_, ?_, hend σ1 σ2 k2 m2⟩
        · show kG_least σ _ _ _ x4 = _
          unfold kG_least
          simp only [c1, Option.bind_some, show ¬ ((1 : Int32) = 0) by decide, if_false, w1, if_true, d2, k1]
        · show kM_least σ1 _ _ _ x4 = _
          have d3s : mI (sI σ1 30 0 0 0) 30 0 8 = nI d := by rw [mIsI, if_neg (by omega), k2.I 30 0 8]; exact d3
          unfold kM_least
          simp only [c2 _ d3s, Option.bind_some, show ¬ ((1 : Int32) = 0) by decide, if_false, w1, show ¬ ((1 : Int32) < 0) by decide, show (1 : Int32) ≤ 1 by decide, if_true, m1, inr_ (show b < 61 by omega), ix_ (show b < 2 ^ 31 by omega), m3, cmp0]
          cases q : lst σ R d w a b with
          | none => rfl
          | some y =>
            rw [show ec (some y) = lN y.1 from rfl, if_neg (lN_m1 (hlb y q).1), m4 y q]
            rfl
      · refine ⟨-1, σ, sI σ 30 0 0 0, ?_, ?_, N, d, P, R, hI0⟩
        · show kG_least σ _ _ _ x4 = _
          unfold kG_least
          simp only [c1, Option.bind_some, show ¬ ((1 : Int32) = 0) by decide, if_false, w0, w1]
        · show kM_least σ _ _ _ x4 = _
          unfold kM_least
          simp only [c2 _ d3', Option.bind_some, show ¬ ((1 : Int32) = 0) by decide, if_false]
          by_cases e0 : x4 < 0
          · rw [if_pos e0]
          · rw [if_neg e0]
            by_cases e1 : x4 ≤ 1
            · obtain ⟨j, hj, rfl⟩ := nI_of2 (M := 1) (n := 1) (by decide) e0 e1
              rcases (show j = 0 ∨ j = 1 by omega) with rfl | rfl
              · exact absurd rfl w0
              · exact absurd rfl w1
            · rw [if_neg e1]
  · refine ⟨-1, σ, sI σ 30 0 0 0, ?_, ?_, N, d, P, R, hI0⟩
    · show kG_least σ _ _ _ _ = _
      unfold kG_least
      simp only [c1, Option.bind_some, if_true]
    · show kM_least σ _ _ _ _ = _
      unfold kM_least
      simp only [c2 _ d3', Option.bind_some, if_true]
theorem E_drop {σ : Mem} {x1 : Int32} (hI : INV σ) : EQ2 (fun σ => kG_drop σ x1) (fun σ => kM_drop σ x1) σ := by
  obtain ⟨N, d, P, R, hI⟩ := hI
  have hT := hI.2.2.2.2.2.2.1
  have h8 := hT.1
  have hno : kG_drop σ x1 = some (0, σ) → kM_drop σ x1 = some (0, sI σ 30 0 0 0) → EQ2 (fun σ => kG_drop σ x1) (fun σ => kM_drop σ x1) σ := fun a b => ⟨0, σ, _, a, b, N, d, P, R, hI.thr⟩
  have b0 : bz 0 = true := by decide
  have b1 : bz 1 = true := by decide
  have z32 : mI (sI σ 30 0 0 0) 30 0 32 = nI R := hT.2.2.1
  rcases i32 x1 R with h | h | ⟨k, hk, rfl⟩
  · refine hno ?_ ?_
    · unfold kG_drop kT_endRule kT_endRule_j19 kT_endRule_j20
      rw [if_pos h]
      rfl
    · unfold kM_drop
      rw [if_pos h]
  · have h0 : ¬ x1 < 0 := fun z => absurd (Int32.lt_of_lt_of_le z (nI_pos' (n := R) (by omega))) (Int32.not_lt.mpr h)
    refine hno ?_ ?_
    · unfold kG_drop kT_endRule kT_endRule_j19
      rw [if_neg h0]
      by_cases c : 8 ≤ x1
      · rw [if_pos c]; rfl
      · rw [if_neg c]
        obtain ⟨k, hk, rfl⟩ := nI_of h0
        have hk8 : k < 8 := by have := mt (nI_leI (a := 8) (by decide) hk).mpr c; omega
        have hkR : R ≤ k := (nI_leI (by omega) hk).mp h
        rw [if_pos (inr_ hk8), ix_, (hT.2.2.2.2.2 k hkR).2 hk8]
        rfl
    · unfold kM_drop
      rw [if_neg h0, z32, if_pos h]
  · obtain ⟨r0, f0, f1, f2, f3, hs, hr, hh, hp⟩ := hT.2.2.2.2.1 k hk
    have z61 : mI (sI σ 30 0 0 0) 61 0 k = mI σ 61 0 k := rfl
    have hcl : kG_drop σ (nI k) = if mI σ 61 0 k = 0 then some (0, σ) else some (1, sI σ 23 k 3 0) := by
      unfold kG_drop kT_endRule kT_endRule_j20
      simp only [nn0 (show k < 2 ^ 31 by omega), if_false, show ¬ (8 : Int32) ≤ nI k from nge (show k < 8 by omega), inr_ (show k < 8 by omega), if_true, ix_ (show k < 2 ^ 31 by omega), r0, Option.elim_some, f3]
      by_cases c : mI σ 61 0 k = 0
      · simp only [c, if_true, Option.bind_some, b0]
      · simp only [c, if_false, Option.bind_some, b1, if_true]
    by_cases c : mI σ 61 0 k = 0
    · rw [if_pos c] at hcl
      refine hno hcl ?_
      unfold kM_drop
      simp only [nn0 (show k < 2 ^ 31 by omega), if_false, z32, nge hk (by omega), inr_ (show k < 8 by omega), if_true, ix_ (show k < 2 ^ 31 by omega), z61, c]
    · rw [if_neg c] at hcl
      refine ⟨1, sI σ 23 k 3 0, sI (sI (sI σ 23 k 3 0) 30 0 0 0) 61 0 k 0, hcl, ?_, N, d, P, R, ?_⟩
      · show kM_drop (sI σ 23 k 3 0) (nI k) = _
        have y32 : mI (sI (sI σ 23 k 3 0) 30 0 0 0) 30 0 32 = nI R := by simp [mIsI, mIsL, mIsR, mIsV, mIfI, mIsW, mLsI, mLsL, mLsR, mLsV, mLfI, mLsW, mRsI, mRsL, mRsR, mRsV, mRfI, mRsW, mVsI, mVsL, mVsR, mVsV, mVfI, mVsW]; exact hT.2.2.1
        have y61 : mI (sI (sI σ 23 k 3 0) 30 0 0 0) 61 0 k = mI σ 61 0 k := by simp [mIsI, mIsL, mIsR, mIsV, mIfI, mIsW, mLsI, mLsL, mLsR, mLsV, mLfI, mLsW, mRsI, mRsL, mRsR, mRsV, mRfI, mRsW, mVsI, mVsL, mVsR, mVsV, mVfI, mVsW]
        unfold kM_drop
        simp only [nn0 (show k < 2 ^ 31 by omega), if_false, y32, nge hk (by omega), inr_ (show k < 8 by omega), if_true, ix_ (show k < 2 ^ 31 by omega), y61, c, zn0]
      · refine INV'.tf hI (fun t i j g1 g2 => ?_) (fun t i _ => rfl) ?_
        · have t23 : t ≠ 23 := fun z => g1 (by rw [z]; decide)
          have t61 : t ≠ 61 := fun z => g1 (by rw [z]; decide)
          simp only [List.mem_cons, List.not_mem_nil, or_false, not_or, Prod.mk.injEq, not_and] at g2
          refine ⟨?_, rfl, rfl⟩
          rw [mIsI, if_neg (fun z => t61 z.1), mIsI, if_neg (fun z => g2.2 z.1 z.2.2), mIsI, if_neg (fun z => t23 z.1)]
        · obtain ⟨t1, t2, t3, t4, t5, t6⟩ := hT
          refine ⟨t1, by simp [mIsI, mIsL, mIsR, mIsV, mIfI, mIsW, mLsI, mLsL, mLsR, mLsV, mLfI, mLsW, mRsI, mRsL, mRsR, mRsV, mRfI, mRsW, mVsI, mVsL, mVsR, mVsV, mVfI, mVsW]; exact t2, by simp [mIsI, mIsL, mIsR, mIsV, mIfI, mIsW, mLsI, mLsL, mLsR, mLsV, mLfI, mLsW, mRsI, mRsL, mRsR, mRsV, mRfI, mRsW, mVsI, mVsL, mVsR, mVsV, mVfI, mVsW]; exact t3, fun w hw n hn => by simp [mIsI, mIsL, mIsR, mIsV, mIfI, mIsW, mLsI, mLsL, mLsR, mLsV, mLfI, mLsW, mRsI, mRsL, mRsR, mRsV, mRfI, mRsW, mVsI, mVsL, mVsR, mVsV, mVfI, mVsW]; exact t4 w hw n hn, fun j hj => ?_, fun j hj => t6 j hj⟩
          obtain ⟨r0, f0, f1, f2, f3, hs, hr, hh, hp⟩ := t5 j hj
          by_cases e : j = k
          · subst e
            simp [mIsI, mIsL, mIsR, mIsV, mIfI, mIsW, mLsI, mLsL, mLsR, mLsV, mLfI, mLsW, mRsI, mRsL, mRsR, mRsV, mRfI, mRsW, mVsI, mVsL, mVsR, mVsV, mVfI, mVsW]
            exact ⟨r0, f0, f1, f2, hs, hr, hp⟩
          · simp [mIsI, mIsL, mIsR, mIsV, mIfI, mIsW, mLsI, mLsL, mLsR, mLsV, mLfI, mLsW, mRsI, mRsL, mRsR, mRsV, mRfI, mRsW, mVsI, mVsL, mVsR, mVsV, mVfI, mVsW, e]
            exact ⟨r0, f0, f1, f2, f3, hs, hr, hh, hp⟩
