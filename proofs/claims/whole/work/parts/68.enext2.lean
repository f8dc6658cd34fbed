theorem nI_m512 {s : Nat} (h : s < 512) : cd (some s) ≠ -1 := nm512 s h
theorem next_last {σ : Mem} {N d P R : Nat} (hI : INV' σ N d P R) (d59 : d = 59) : EQ2 (fun σ => kG_next σ) (fun σ => kM_next σ) σ := by
  obtain ⟨d1, d2, d3, -⟩ := hI.2.2.1
  refine ⟨-1, σ, sI σ 30 0 0 0, ?_, ?_, N, d, P, R, hI.thr⟩
  · show kG_next σ = _
    unfold kG_next
    rw [d2, d59, if_neg (by decide)]
  · show kM_next σ = _
    unfold kM_next
    have e : mI (sI σ 30 0 0 0) 30 0 8 = 59 := by rw [mIsI, if_neg (by omega), d3, d59]; rfl
    rw [if_pos e]
theorem bnd {α β : Type} {o : Option α} {x : α} {F : α → Option β} (h : o = some x) : o.bind F = F x := by rw [h]; rfl
theorem next_run {σ σa σb σc σd σe σf σ1 : Mem} {x y c : Int32} (d2 : mI σ 1 0 5 = x) (hlt : x < 59) (ma : kB_missNight σ x = some ((), σa)) (k1 : mI σa 1 0 5 = x) (R1 : kG_replanFrom σa x = some ((), σb)) (k2 : mI σb 1 0 5 = x) (v1 : kG_planUpTo σb x = some ((), σc)) (k3 : mI σc 1 0 5 = x) (w1 : kB_walkFrom σc x = some (c, σd)) (k4 : mI σd 1 0 5 = x) (e1 : sI σd 1 0 5 (x + 1) = σe) (e6 : mI σe 1 0 5 = y) (t1 : kB_turnTo σe y = some ((), σf)) (e5 : mI σf 1 0 5 = y) (e7 : sI σf 1 0 7 y = σ1) : kG_next σ = some (c, σ1) := by
  unfold kG_next
  rw [d2, if_pos hlt]
  refine (bnd ma).trans ?_
  show (kG_replanFrom σa (mI σa 1 0 5)).bind _ = _
  rw [k1]
  refine (bnd R1).trans ?_
  show (kG_planUpTo σb (mI σb 1 0 5)).bind _ = _
  rw [k2]
  refine (bnd v1).trans ?_
  show (kB_walkFrom σc (mI σc 1 0 5)).bind _ = _
  rw [k3]
  refine (bnd w1).trans ?_
  show (kB_turnTo (sI σd 1 0 5 ((mI σd 1 0 5) + 1)) (mI (sI σd 1 0 5 ((mI σd 1 0 5) + 1)) 1 0 5)).bind _ = _
  rw [k4, e1, e6]
  refine (bnd t1).trans ?_
  show some (c, sI σf 1 0 7 (mI σf 1 0 5)) = _
  rw [e5, e7]
theorem mnext_run {σ τ0 τ1 τ2 τ3 τ4 τ5 : Mem} {x c : Int32} (h0 : sI σ 30 0 0 0 = τ0) (h8 : mI τ0 30 0 8 = x) (hne : ¬ x = 59) (m1 : loopF FU kM_next_s18 (0, τ0) = some τ1) (k1 : mI τ1 30 0 8 = x) (r1 : kM_plan τ1 x = some ((), τ2)) (w1 : loopF FU kM_next_s74 (0, 0, τ2) = some (c, τ3)) (k3 : mI τ3 30 0 8 = x) (e : sI τ3 30 0 8 (x + 1) = τ4) (t1 : loopF FU (kM_next_s180 c) (0, τ4) = some τ5) : kM_next σ = some (c, τ5) := by
  unfold kM_next
  rw [h0, h8, if_neg hne]
  refine (bnd m1).trans ?_
  show kM_next_x62 τ1 = _
  unfold kM_next_x62
  rw [k1]
  refine (bnd r1).trans ?_
  show (loopF FU kM_next_s74 (0, 0, τ2)).bind _ = _
  refine (bnd w1).trans ?_
  show kM_next_x168 τ3 c = _
  unfold kM_next_x168
  rw [k3, e]
  refine (bnd t1).trans ?_
  rfl
theorem E_next {σ : Mem} (hI : INV σ) : EQ2 (fun σ => kG_next σ) (fun σ => kM_next σ) σ := by
  obtain ⟨N, d, P, R, hI⟩ := hI
  obtain ⟨i1, i2, ⟨d1, d2, d3, o, ho, d4, d5⟩, i4, ⟨p1, p2, p3, p4⟩, i6, i7, i8⟩ := id hI
  have hN := i2.1
  have h51 := i2.2.1
  have h20 := i2.2.2.1
  by_cases d59 : d = 59
  · exact next_last hI d59
  · obtain ⟨s1, hs1⟩ : ∃ s1 : Nat → Int32, s1 = fun q => fMiss (mI σ 40 0 q) (mI σ 43 0 q) (mI σ 44 0 q) (nI d) := ⟨_, rfl⟩
    have hs1' : ∀ q, fMiss (mI σ 40 0 q) (mI σ 43 0 q) (mI σ 44 0 q) (nI d) = s1 q := fun q => by rw [hs1]
    have s8 : ∀ q, q < N → ∃ s, s < 8 ∧ s1 q = nI s := fun q hq => by
      obtain ⟨-, -, ⟨s, hs, es⟩, -⟩ := i2.2.2.2.1 q hq
      rw [← hs1', es]
      exact fMiss_8 hs
    have h6 : ∀ q, q < N → mR σ 6 0 q = some q := fun q hq => (i2.2.2.2.1 q hq).1
    -- the class, to the plan of the night
    obtain ⟨σa, ma, fa, ga⟩ := missNight_ok (σ := σ) (x := nI d) hN h51 h6
    have ga' : ∀ q, q < N → mI σa 21 q 3 = s1 q := fun q hq => by
      obtain ⟨-, -, -, -, -, -, -, e3, e4, e5, -⟩ := i2.2.2.2.1 q hq
      rw [ga q, if_pos hq, e3, e4, e5, hs1']
    have R1 := replanN (σ := σa) (d := d) (P := P) (n := d) (by rw [fa.I 1 0 5]; exact d2) (by rw [fa.I 1 0 7]; exact p1) p2 p3 (by omega)
    rw [show max d (min P d) = d by omega] at R1
    obtain ⟨σb, hσb⟩ : ∃ σb, σb = sI σa 1 0 7 (nI d) := ⟨_, rfl⟩
    rw [← hσb] at R1
    have fb : Fx [] [(21, 3), (1, 7)] σ σb := by
      rw [hσb]
      exact (fa.wk rfl rfl).sI
    obtain ⟨ρ, hρ⟩ : ∃ ρ, ρ = sW σ 40 0 (fun q => if q < N then s1 q else mI σ 40 0 q) := ⟨_, rfl⟩
    have fr : Fx [40] [] σ ρ := by
      rw [hρ]
      exact ⟨Gx.sW (fun _ _ _ _ _ => ⟨rfl, rfl, rfl⟩), fun _ _ => rfl⟩
    have r40 : ∀ q, q < N → mI ρ 40 0 q = s1 q := fun q hq => by rw [hρ, mIsW, if_pos ⟨rfl, rfl⟩, if_pos hq]
    have fm : Fx XL XM σ (ovH σb ρ) := Fx.ov (fb.wk rfl rfl) (fr.wk rfl rfl)
    have b21 : ∀ q, q < N → mI σb 21 q 3 = s1 q := fun q hq => by rw [hσb, mIsI, if_neg (by omega)]; exact ga' q hq
    have hBm : BI (ovH σb ρ) N := nx_BI i2 fm (fun q hq => by
      rw [mIc (show 21 < 30 by omega), mIm (show 30 ≤ 40 by omega), b21 q hq, r40 q hq]
      obtain ⟨s, hs, es⟩ := s8 q hq
      exact ⟨s, hs, es, es⟩)
    have hHm : HI (ovH σb ρ) := HI.fx fm rfl i1
    have hSm : HS (ovH σb ρ) N d := HS_eq (fun q n _ _ => by rw [mIc (by omega), fb.I 22 q n]) (fun q n _ => by rw [mIm (by omega), fr.I 49 0 _]) (fun f hf => NV_eq (hvS_fx fm rfl) (fun q _ => by unfold wq; rw [mIm (by omega), fr.I 41 0 q]) hf) i4
    have hPm : PI (ovH σb ρ) N d d := ⟨by rw [mIc (by omega), hσb, mIsI, if_pos ⟨rfl, rfl, rfl⟩], Nat.le_refl d, by omega, fun n h1 h2 => by omega⟩
    obtain ⟨τ, u1, u2, u3, P', u4, u5, u6⟩ := upTo_ok (x := nI d) hHm hBm hSm hPm
    obtain ⟨σc, v1, v2, v3⟩ := upTo_fr u1 u2
    obtain ⟨sp, hsp⟩ : ∃ sp, sp = PS (ovH σb ρ) N d 0 := ⟨_, rfl⟩
    have c22d : ∀ q, q < N → mI σc 22 q d = cd (sp q) := fun q hq => by
      have h0 := u5.2.2.2 d (Nat.le_refl d) (u6 d d1 (Or.inl rfl)) q hq
      rw [PS_fx u2 rfl rfl rfl, Nat.sub_self, v3, mIc (by omega), ← hsp] at h0
      exact h0
    have c22n : ∀ q n, n < d → mI σc 22 q n = mI σ 22 q n := fun q n hn => by
      have h0 := u3 q n hn
      rw [v3, mIc (by omega), mIc (by omega), fb.I 22 q n] at h0
      exact h0
    have fc : Fx [8, 9, 10, 12, 13, 22] [(7, 4), (11, 5), (1, 7), (21, 3)] σ σc := Fx.tr (fb.wk rfl rfl) (Fx.wk v2 rfl rfl)
    have c21 : ∀ q, q < N → mI σc 21 q 3 = s1 q := fun q hq => by rw [Fx.I v2 21 q 3]; exact b21 q hq
    obtain ⟨σd, w1, w2, w3⟩ := walk_ok (σ := σc) (n := d) d1 hN (by rw [fc.I 5 0 1]; exact h51) (fun q hq => by rw [fc.R 6 0 q]; exact h6 q hq)
    obtain ⟨σe, hσe⟩ : ∃ σe, σe = sI σd 1 0 5 (nI (d + 1)) := ⟨_, rfl⟩
    have fe : Fx [8, 9, 10, 12, 13, 22] [(7, 4), (11, 5), (1, 7), (1, 5), (21, 3)] σ σe := by
      rw [hσe]
      exact (Fx.tr (fc.wk rfl rfl) (w2.wk rfl rfl)).sI
    obtain ⟨σf, t1, t2, t3⟩ := turnTo_ok (σ := σe) (x := nI (d + 1)) hN (by rw [fe.I 5 0 1]; exact h51) (fun q hq => by rw [fe.R 6 0 q]; exact h6 q hq)
    obtain ⟨σ1, hσ1⟩ : ∃ σ1, σ1 = sI σf 1 0 7 (nI (d + 1)) := ⟨_, rfl⟩
    have f1 : Fx [8, 9, 10, 12, 13, 22] [(7, 4), (11, 5), (1, 7), (1, 5), (21, 3)] σ σ1 := by
      rw [hσ1]
      exact (Fx.tr fe (t2.wk rfl rfl)).sI
    obtain ⟨wk, hwk⟩ : ∃ wk : Nat → Bool, wk = fun q => fWalk (mI σc 21 q 3) (mI σc 21 q 4) (mI σc 21 q 5) (nI d) (mI σc 22 q d) := ⟨_, rfl⟩
    have hwk' : ∀ q, fWalk (mI σc 21 q 3) (mI σc 21 q 4) (mI σc 21 q 5) (nI d) (mI σc 22 q d) = wk q := fun q => by rw [hwk]
    rw [← hwk] at w1
    simp only [hwk'] at w3
    have hcl : kG_next σ = some (nI (fb_ct wk N), σ1) := by
      have e5 : mI σf 1 0 5 = nI (d + 1) := by rw [t2.I 1 0 5, hσe, mIsI, if_pos ⟨rfl, rfl, rfl⟩]
      have e6 : mI σe 1 0 5 = nI (d + 1) := by rw [hσe, mIsI, if_pos ⟨rfl, rfl, rfl⟩]
      have k1 : mI σa 1 0 5 = nI d := by rw [fa.I 1 0 5]; exact d2
      have k2 : mI σb 1 0 5 = nI d := by rw [fb.I 1 0 5]; exact d2
      have k3 : mI σc 1 0 5 = nI d := by rw [fc.I 1 0 5]; exact d2
      have k4 : mI σd 1 0 5 = nI d := by rw [w2.I 1 0 5]; exact k3
      have hlt : nI d < 59 := nI_lt (show d < 59 by omega) (by decide)
      exact next_run d2 hlt ma k1 R1 k2 v1 k3 w1 k4 (by rw [nI_1]; exact hσe.symm) e6 t1 e5 hσ1.symm
    have st1 : ∀ q, q < N → mI σ1 21 q 3 = fTurn (if wk q = true then 7 else s1 q) (mI σ 44 0 q) (mI σ 45 0 q) (nI (d + 1)) := fun q hq => by
      obtain ⟨-, -, -, -, -, -, e2, -, -, e5, -⟩ := i2.2.2.2.1 q hq
      have x3 : mI σe 21 q 3 = if wk q = true then 7 else s1 q := by
        rw [hσe, mIsI, if_neg (by omega), w3 q, c21 q hq]
        by_cases z : wk q = true
        · rw [if_pos ⟨hq, z⟩, if_pos z]
        · rw [if_neg (fun y => z y.2), if_neg z]
      rw [hσ1, mIsI, if_neg (by omega), t3 q, if_pos hq, x3, fe.I 21 q 5, fe.I 21 q 2, e2, e5]
    have g22 : ∀ q n, mI σ1 22 q n = mI σc 22 q n := fun q n => by
      rw [hσ1, mIsI, if_neg (by omega), t2.I 22 q n, hσe, mIsI, if_neg (by omega), w2.I 22 q n]
    -- the reference
    have f1' : Fx [8, 9, 10, 12, 13, 22] [(7, 4), (11, 5), (1, 7), (1, 5), (21, 3), (30, 0)] σ (sI σ1 30 0 0 0) := (f1.wk rfl rfl).sI
    obtain ⟨τ1, m1, m2, m3⟩ := mMiss_ok (σ := sI σ1 30 0 0 0) (N := N) (d := d) hN (by rw [f1'.I 30 0 20]; exact h20) (by rw [f1'.I 30 0 8]; exact d3) (fun q hq => by
      obtain ⟨-, -, ⟨s, hs, es⟩, -⟩ := i2.2.2.2.1 q hq
      exact ⟨s, hs, by rw [f1'.I 40 0 q]; exact es⟩)
    have m40 : ∀ q, q < N → mI τ1 40 0 q = s1 q := fun q hq => by
      rw [m3 q, if_pos hq, f1'.I 40 0 q, f1'.I 43 0 q, f1'.I 44 0 q, hs1']
    have g1 : Fx XL XM σ τ1 := Fx.tr (f1'.wk rfl rfl) (m2.wk rfl rfl)
    have fn : Fx XL XM σ (ovH σb τ1) := Fx.ov (fb.wk rfl rfl) g1
    have hBn : BI (ovH σb τ1) N := nx_BI i2 fn (fun q hq => by
      rw [mIc (show 21 < 30 by omega), mIm (show 30 ≤ 40 by omega), b21 q hq, m40 q hq]
      obtain ⟨s, hs, es⟩ := s8 q hq
      exact ⟨s, hs, es, es⟩)
    have hHn : HI (ovH σb τ1) := HI.fx fn rfl i1
    have n49 : ∀ k, mI τ1 49 0 k = mI σ 49 0 k := fun k => by rw [m2.I 49 0 k, f1'.I 49 0 k]
    have hpv : PVm (ovH σb τ1) N d (fun q => if d = 0 then none else hist (ovH σb ρ) N (d - 1) q) := fun q hq => by
      refine ⟨fun e0 => if_pos e0, fun e1 => ?_, fun s hs => ?_⟩
      · show mI (ovH σb τ1) 49 0 (60 * q + (d - 1)) = cd (if d = 0 then none else hist (ovH σb ρ) N (d - 1) q)
        rw [if_neg (by omega), mIm (by omega), n49]
        have := ((hSm (d - 1) (by omega)).2 q hq).1
        rw [mIm (by omega), fr.I 49 0 _] at this
        exact this
      · have hs : (if d = 0 then none else hist (ovH σb ρ) N (d - 1) q) = some s := hs
        by_cases e0 : d = 0
        · rw [if_pos e0] at hs; cases hs
        · rw [if_neg e0] at hs
          have := suS_iff.mp ((hSm (d - 1) (by omega)).1.1 q hq s hs)
          exact ⟨this.2.1, this.2.2.1⟩
    have hwl : WLi (ovH σb τ1) d N = WLi (ovH σb ρ) d N := by
      have key : ∀ i, i ≤ N → WLi (ovH σb τ1) d i = WLi (ovH σb ρ) d i := fun i => by
        induction i with
        | zero => exact fun _ => rfl
        | succ i ih =>
          intro hi
          show WLi (ovH σb τ1) d i ++ _ = WLi (ovH σb ρ) d i ++ _
          rw [ih (by omega)]
          unfold wnt pe wq
          simp only [mIm (show 30 ≤ 40 by omega), mIm (show 30 ≤ 41 by omega), mIm (show 30 ≤ 43 by omega), mIm (show 30 ≤ 44 by omega), m40 i (by omega), r40 i (by omega), g1.I 41 0 i (by decide) (by simp [XM]), g1.I 43 0 i (by decide) (by simp [XM]), g1.I 44 0 i (by decide) (by simp [XM]), fr.I 41 0 i, fr.I 43 0 i, fr.I 44 0 i]
      exact key N (Nat.le_refl N)
    have hhv : hvN (ovH σb τ1) d = hvN (ovH σb ρ) d := by rw [hvN_fx fn rfl, hvN_fx fm rfl]
    obtain ⟨τ', q1, q2, q3, q4⟩ := plan_ok hHn hBn d1 hpv
    obtain ⟨τ2, r1, r2, r3⟩ := plan_fr q1
    rw [r3] at q2 q3 q4
    have q2 := Fx_high q2 r2
    rw [hwl, hhv] at q3 q4
    have hsp' : (pnight (hvN (ovH σb ρ) d) (WLi (ovH σb ρ) d N) (fun q => if d = 0 then none else hist (ovH σb ρ) N (d - 1) q)).2 = sp := hsp.symm
    rw [hsp'] at q3
    obtain ⟨gi, gk⟩ := pnight_ok (pv := fun q => if d = 0 then none else hist (ovH σb ρ) N (d - 1) q) (WHN (n := d) hHm) (wli_ok (n := d) hBm)
    rw [hsp'] at gk
    obtain ⟨kp, hkp⟩ : ∃ kp, kp = (keepAll (hvN (ovH σb ρ) d) (WLi (ovH σb ρ) d N)).2 := ⟨_, rfl⟩
    rw [← hkp] at q4
    have hk : ∀ q, kp q = true ↔ sp q ≠ none := fun q => by
      refine ⟨fun h => gk q (by rw [← hkp]; exact h), fun h => ?_⟩
      cases e : sp q with
      | none => exact absurd e h
      | some s =>
        rw [← hsp'] at e
        rw [hkp]
        exact (gi.2.2.1 q s e).2.1
    have hNV : NV (ovH σb ρ) N sp := by rw [hsp]; exact PS_NV hHm hBm
    have hcd : ∀ q, q < N → (cd (sp q) = -1 ↔ sp q = none) := fun q hq => by
      cases e : sp q with
      | none => simp [cd]
      | some s =>
        have := (suS_iff.mp (hNV.1 q hq s e)).2.1
        exact ⟨fun z => absurd z (nI_m512 this), fun z => by cases z⟩
    have e8 : mI τ2 30 0 8 = nI d := by rw [q2.I 30 0 8, m2.I 30 0 8, f1'.I 30 0 8]; exact d3
    have g2 : Fx XL XM σ τ2 := Fx.tr g1 (q2.wk rfl rfl)
    have t40 : ∀ q, q < N → mI τ2 40 0 q = s1 q := fun q hq => by rw [q2.I 40 0 q]; exact m40 q hq
    have t55 : ∀ q, q < N → mI τ2 55 0 q = if kp q = true then 1 else 0 := fun q hq => by
      have := q4 q hq
      rw [mIm (by omega)] at this
      exact this
    have t49 : ∀ q, q < N → mI τ2 49 0 (60 * q + d) = cd (sp q) := fun q hq => by
      have := q3.1 q hq
      rw [mIm (by omega)] at this
      exact this
    have t49n : ∀ q n, n < 60 → n ≠ d → mI τ2 49 0 (60 * q + n) = mI σ 49 0 (60 * q + n) := fun q n hn hne => by
      have := q3.2 q n hn hne
      rw [mIm (by omega), mIm (by omega), n49] at this
      exact this
    obtain ⟨τ3, x1, x2, x3⟩ := mWalk_ok (σ := τ2) (N := N) (d := d) hN d1 (by rw [g2.I 30 0 20 (by decide) (by decide)]; exact h20) e8
    obtain ⟨τ4, hτ4⟩ : ∃ τ4, τ4 = sI τ3 30 0 8 (nI (d + 1)) := ⟨_, rfl⟩
    obtain ⟨σ2, y1, y2, y3⟩ := mTurn_ok (σ := τ4) (N := N) (x := nI (d + 1)) (x1 := nI (fb_ct (wlk τ2 d) N)) hN (by rw [hτ4, mIsI, if_neg (by omega), x2.I 30 0 20, g2.I 30 0 20 (by decide) (by decide)]; exact h20) (by rw [hτ4, mIsI, if_pos ⟨rfl, rfl, rfl⟩])
    have hmm : kM_next σ1 = some (nI (fb_ct (wlk τ2 d) N), σ2) :=
      mnext_run rfl (by rw [f1'.I 30 0 8]; exact d3) (fun z => d59 ((nI_eq (b := 59) (by omega) (by decide)).mp z)) m1 (by rw [m2.I 30 0 8, f1'.I 30 0 8]; exact d3) r1 x1 (by rw [x2.I 30 0 8]; exact e8) (by rw [nI_1]; exact hτ4.symm) y1
    have hwn : ∀ q, q < N → (wnt τ2 q d = true ↔ s1 q ≤ 2 ∧ mI σ 43 0 q ≤ nI d ∧ nI d < mI σ 44 0 q) := fun q hq => by
      rw [wnt_iff, t40 q hq, g2.I 43 0 q (by decide) (by simp [XM]), g2.I 44 0 q (by decide) (by simp [XM])]
    have hsw : ∀ q, q < N → wk q = wlk τ2 d q := fun q hq => by
      obtain ⟨-, -, -, -, -, -, -, -, e4, e5, -⟩ := i2.2.2.2.1 q hq
      rw [← hwk', c21 q hq, fc.I 21 q 4, fc.I 21 q 5, e4, e5, c22d q hq]
      unfold fWalk wlk
      rw [t40 q hq, t55 q hq]
      by_cases c0 : s1 q = 2
      · have hw2 : wnt τ2 q d = (!decide (nI d < mI σ 43 0 q) && !decide (mI σ 44 0 q ≤ nI d)) := by
          rw [Bool.eq_iff_iff, hwn q hq, c0]
          simp only [Bool.and_eq_true, Bool.not_eq_true', decide_eq_false_iff_not, Int32.not_lt, Int32.not_le]
          exact ⟨fun z => z.2, fun z => ⟨by decide, z⟩⟩
        have hk2 : decide (cd (sp q) = -1) = decide ((if kp q = true then (1 : Int32) else 0) = 0) := by
          rw [Bool.eq_iff_iff, decide_eq_true_eq, decide_eq_true_eq, hcd q hq]
          by_cases c1 : kp q = true
          · rw [if_pos c1]
            exact ⟨fun z => absurd z ((hk q).mp c1), fun z => absurd z (by decide)⟩
          · rw [if_neg c1]
            exact ⟨fun _ => rfl, fun _ => Classical.byContradiction fun z => c1 ((hk q).mpr z)⟩
        rw [hw2, hk2, Bool.and_assoc]
      · rw [decide_eq_false c0, Bool.false_and, Bool.false_and]
    have hsy : ∀ q, q < N → (sty τ2 d q = true ↔ sp q ≠ none) := fun q hq => by
      unfold sty
      rw [t40 q hq, t55 q hq]
      simp only [Bool.and_eq_true, Bool.not_eq_true', decide_eq_false_iff_not, decide_eq_true_eq]
      refine ⟨fun z => (hk q).mp (Classical.byContradiction fun y => z.2.2 (by rw [if_neg y])), fun z => ?_⟩
      have kq := (hk q).mpr z
      obtain ⟨e', he', hq'⟩ := (keepAll_ok (H := hvN (ovH σb ρ) d) (wli_ok (n := d) hBm)).2.2 q (by rw [← hkp]; exact kq)
      have hw := (wli_mem he').2.2
      rw [hq', wnt_iff, mIm (show 30 ≤ 40 by omega), mIm (show 30 ≤ 43 by omega), mIm (show 30 ≤ 44 by omega), r40 q hq, fr.I 43 0 q, fr.I 44 0 q] at hw
      obtain ⟨-, -, ⟨s, hs, es⟩, -⟩ := i2.2.2.2.1 q hq
      refine ⟨?_, (hwn q hq).mpr hw, by rw [if_pos kq]; decide⟩
      have h2 := hw.1
      rw [← hs1', es] at h2 ⊢
      exact miss_two hs h2 hw.2.1 hw.2.2
    refine ⟨nI (fb_ct wk N), σ1, σ2, hcl, ?_, N, d + 1, d + 1, R, ?_⟩
    · show kM_next σ1 = _
      rw [hmm, fb_ct_cong (fun q hq => (hsw q hq).symm)]
    have f2 : Fx XL XM σ σ2 := by
      refine Fx.tr (Fx.tr g2 (x2.wk rfl rfl)) ?_
      refine Fx.tr ?_ (y2.wk rfl rfl)
      rw [hτ4]
      exact Fx.rf.sI (ht := by decide)
    have z22 : ∀ q n, mI σ2 22 q n = mI σc 22 q n := fun q n => by
      rw [y2.I 22 q n, hτ4, mIsI, if_neg (by omega), x2.I 22 q n, q2.I 22 q n, m2.I 22 q n, mIsI, if_neg (by omega), g22]
    have z49 : ∀ k, mI σ2 49 0 k = mI τ2 49 0 k := fun k => by
      rw [y2.I 49 0 k, hτ4, mIsI, if_neg (by omega), x2.I 49 0 k]
    have z46 : ∀ q, mI σ2 46 0 q = mI τ3 46 0 q ∧ mI σ2 47 0 q = mI τ3 47 0 q := fun q => by
      rw [y2.I 46 0 q, y2.I 47 0 q, hτ4, mIsI, if_neg (by omega), mIsI, if_neg (by omega)]
      exact ⟨rfl, rfl⟩
    have hS' : hvS σ2 = hvS (ovH σb ρ) := by rw [hvS_fx f2 rfl, hvS_fx fm rfl]
    have hwq' : ∀ q, wq σ2 q = wq (ovH σb ρ) q := fun q => by
      unfold wq
      rw [mIm (by omega), fr.I 41 0 q, f2.I 41 0 q (by decide) (by simp [XM])]
    refine ⟨HI.fx f2 rfl i1, nx_BI i2 f2 (fun q hq => ?_), ⟨by omega, ?_, ?_, o, ho, ?_, ?_⟩, ?_, ⟨?_, Nat.le_refl _, by omega, fun n h1 h2 => by omega⟩, ?_, TI.fx f2 rfl rfl i7, ?_⟩
    · have a1 : mI σ2 40 0 q = fTurn (if wk q = true then 7 else s1 q) (mI σ 44 0 q) (mI σ 45 0 q) (nI (d + 1)) := by
        have b1 : mI τ4 40 0 q = if wk q = true then 7 else s1 q := by
          rw [hτ4, mIsI, if_neg (by omega), (x3 q).1, ← hsw q hq, t40 q hq]
          by_cases z : wk q = true
          · rw [if_pos ⟨hq, z⟩, if_pos z]
          · rw [if_neg (fun y => z y.2), if_neg z]
        have b2 : mI τ4 44 0 q = mI σ 44 0 q := by rw [hτ4, mIsI, if_neg (by omega), x2.I 44 0 q, g2.I 44 0 q (by decide) (by simp [XM])]
        have b3 : mI τ4 45 0 q = mI σ 45 0 q := by rw [hτ4, mIsI, if_neg (by omega), x2.I 45 0 q, g2.I 45 0 q (by decide) (by simp [XM])]
        rw [y3 q, if_pos hq, b1, b2, b3]
      have a2 : mI σ2 21 q 3 = fTurn (if wk q = true then 7 else s1 q) (mI σ 44 0 q) (mI σ 45 0 q) (nI (d + 1)) := by
        rw [y2.I 21 q 3, hτ4, mIsI, if_neg (by omega), x2.I 21 q 3, q2.I 21 q 3, m2.I 21 q 3, mIsI, if_neg (by omega), st1 q hq]
      obtain ⟨s', hs', es'⟩ : ∃ s', s' < 8 ∧ (if wk q = true then 7 else s1 q) = nI s' := by
        by_cases z : wk q = true
        · exact ⟨7, by omega, by rw [if_pos z]; rfl⟩
        · rw [if_neg z]; exact s8 q hq
      rw [a1, a2, es']
      obtain ⟨s, hs, es⟩ := fTurn_8 (s := s') (b := mI σ 44 0 q) (u := mI σ 45 0 q) (x := nI (d + 1)) hs'
      exact ⟨s, hs, es, es⟩
    · rw [y2.I 1 0 5, hτ4, mIsI, if_neg (by omega), x2.I 1 0 5, q2.I 1 0 5, m2.I 1 0 5, mIsI, if_neg (by omega), hσ1, mIsI, if_neg (by omega), t2.I 1 0 5, hσe, mIsI, if_pos ⟨rfl, rfl, rfl⟩]
    · rw [y2.I 30 0 8, hτ4, mIsI, if_pos ⟨rfl, rfl, rfl⟩]
    · rw [f2.I 1 0 6 (by decide) (by decide)]; exact d4
    · rw [f2.I 30 0 9 (by decide) (by decide)]; exact d5
    · intro n hn
      have hlow : HS σ2 N d := HS_eq (fun q n _ hn => by rw [z22, c22n q n hn]) (fun q n hn => by rw [z49, t49n q n (by omega) (by omega)]) (fun f hf => NV_eq (hvS_fx f2 rfl) (fun q _ => by unfold wq; rw [f2.I 41 0 q (by decide) (by simp [XM])]) hf) i4
      by_cases e : n = d
      · subst e
        have hh : hist σ2 N n = sp := funext fun q => by
          unfold hist
          by_cases hq : q < N
          · rw [if_pos hq, z49, t49 q hq]
            exact dc_cd (fun s hs => (suS_iff.mp (hNV.1 q hq s hs)).2.1)
          · rw [if_neg hq, hsp]
            exact (PS_out hHm hBm (by omega)).symm
        rw [hh]
        refine ⟨NV_eq hS' (fun q _ => hwq' q) hNV, fun q hq => ?_⟩
        rw [z49, t49 q hq, z22, c22d q hq]
        exact ⟨rfl, rfl⟩
      · exact hlow n (by omega)
    · rw [y2.I 1 0 7, hτ4, mIsI, if_neg (by omega), x2.I 1 0 7, q2.I 1 0 7, m2.I 1 0 7, mIsI, if_neg (by omega), hσ1, mIsI, if_pos ⟨rfl, rfl, rfl⟩]
    · intro q hq
      obtain ⟨j1, j2⟩ := i6 q hq
      have o46 : mI τ2 46 0 q = mI σ 46 0 q := by rw [q2.I 46 0 q, m2.I 46 0 q, f1'.I 46 0 q]
      have o47 : mI τ2 47 0 q = mI σ 47 0 q := by rw [q2.I 47 0 q, m2.I 47 0 q, f1'.I 47 0 q]
      have hlo := had_eq (σ := σ) (σ' := σ2) (q := q) (d := d) (fun n hn => by rw [z22, c22n q n hn])
      have e22 : mI σ2 22 q d = cd (sp q) := by rw [z22, c22d q hq]
      rw [(z46 q).1, (z46 q).2, (x3 q).2.1, (x3 q).2.2, o46, o47, j1, j2]
      constructor
      · show _ = nI (hadN σ2 q d + (if decide (mI σ2 22 q d ≠ -1) = true then 1 else 0))
        rw [hlo.1]
        by_cases c : sp q = none
        · rw [if_neg (fun z => (hsy q hq).mp z.2 c), if_neg (by rw [e22]; simpa using (hcd q hq).mpr c)]
          rfl
        · rw [if_pos ⟨hq, (hsy q hq).mpr c⟩, if_pos (by rw [e22]; simpa using fun z => c ((hcd q hq).mp z)), nI_1]
      · show _ = nI (movN σ2 q d + (if mvd σ2 q d = true then 1 else 0))
        rw [hlo.2]
        have hmvd : mvd σ2 q d = true ↔ sty τ2 d q = true ∧ hmv τ2 q d = true := by
          rw [hsy q hq]
          unfold mvd hmv
          rw [e22, t49 q hq]
          by_cases c1 : 1 ≤ d
          · have e1 : mI σ2 22 q (d - 1) = mI τ2 49 0 (60 * q + (d - 1)) := by
              rw [z22, c22n q (d - 1) (by omega), t49n q (d - 1) (by omega) (by omega)]
              exact ((i4 (d - 1) (by omega)).2 q hq).2
            rw [e1]
            simp only [Bool.and_eq_true, decide_eq_true_eq, Bool.not_eq_true', decide_eq_false_iff_not]
            exact ⟨fun z => ⟨fun y => z.2.2.1 ((hcd q hq).mpr y), z.1, z.2.2.1, z.2.1, z.2.2.2⟩, fun z => ⟨z.2.1, z.2.2.2.1, z.2.2.1, z.2.2.2.2⟩⟩
          · simp [c1]
        by_cases c : mvd σ2 q d = true
        · rw [if_pos ⟨hq, hmvd.mp c⟩, if_pos c, nI_1]
        · rw [if_neg (fun z => c (hmvd.mpr z.2)), if_neg c]
          rfl
    · unfold LV
      rw [f2.V, f2.V, f2.V]
      exact i8
