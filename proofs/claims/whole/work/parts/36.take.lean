theorem turn_ev {σ : Mem} {p b m k c : Nat} {st : Int32} (hI : HI σ) (hp : p < 16) (hb : b < 6) (hr : isRm σ p = true) (hm : m < 64) (e8 : mI σ 8 0 p = nI m) (hk : k < 4) (ek : mI σ 31 0 p = nI k) (ec : mI σ 9 0 k = nI c) :
    kV_turn σ (nI p) (nI b) st = (kV_isFree (sI (sI σ 8 0 p (nI (m ^^^ 2 ^ b))) 9 0 k (nI c + st)) (mI σ 34 0 p) 0).bind (fun x => if x.1 = 0 then some ((), x.2) else some ((), sI x.2 7 0 4 (mI x.2 7 0 4 + st))) := by
  have A1 : kH_roomAt σ (nI p) = some (some p, σ) := by rw [roomAt_in hI hp, if_pos hr]
  obtain ⟨f0, -, -, f3, -⟩ := (hI p hp).2.2.2.2.2.2.1 hr
  have A2 : mI (sI σ 8 0 p (nI (m ^^^ 2 ^ b))) 20 p 0 = nI k := by rw [mIsI, if_neg (by omega), f0, ek]
  have A3 : mI (sI σ 8 0 p (nI (m ^^^ 2 ^ b))) 9 0 k = nI c := by rw [mIsI, if_neg (by omega), ec]
  have A4 : mI (sI (sI σ 8 0 p (nI (m ^^^ 2 ^ b))) 9 0 k (nI c + st)) 20 p 3 = mI σ 34 0 p := by rw [mIsI, if_neg (by omega), mIsI, if_neg (by omega), f3]
  have A5 : nI p < 16 := nI_lt hp (by decide)
  unfold kV_turn
  simp only [A1, Option.bind_some, Option.elim_some, nn0 (show p < 2 ^ 31 by omega), if_false, A5, inr_ hp, if_true, ix_ (show p < 2 ^ 31 by omega), e8, (xorI m hm b hb).1, A2, inr_ hk, ix_ (show k < 2 ^ 31 by omega), A3, A4]
theorem pf_b0 {H : HV} {tk : TK} {p b : Nat} (hW : WH H) (hu : fu H tk p b = true) (h : pf H tk p = true) : b = 0 := by
  have hp := fu_lt hW hu
  refine fu_b0 hW hp hu fun hk => ?_
  rw [pf_no hW hp (fu_iff.mp hu).1 (by omega)] at h
  cases h
theorem turn_dn {σ : Mem} {H : HV} {n p b : Nat} {tk : TK} {nd : ND} (hI : HI σ) (hH : hvN σ n = H) (hV : VR σ H tk nd) (hb : b < 6) (hu : fu H tk p b = true) : ∃ σ', kV_turn σ (nI p) (nI b) (-1) = some ((), σ') ∧ Fx [8, 9] [(7, 4)] σ σ' ∧ VR σ' H (tks tk p b true) nd := by
  subst hH
  have hW := WHN (n := n) hI
  have hp := fu_lt hW hu
  have ho : opn σ p n = true := (fu_iff.mp hu).1
  have hr := opn_rm ho
  obtain ⟨h8, h9, h10, h7⟩ := hV
  obtain ⟨m, m1, m2, m3⟩ := h8 p hp
  obtain ⟨k, hk, ek⟩ := kd_nat hI hr
  have hkd : (hvN σ n).2.1 p = k := by rw [kd_N ho, ek, ix_]
  have eF := FK_tks hp hb hu k
  rw [if_pos hkd] at eF
  have eS := FS_tks hW hu
  rw [turn_ev hI hp hb hr m1 m2 hk ek (h9 k hk)]
  rw [nb_free (tk := tk) hI hp ho (fun r hr' hne => by
    obtain ⟨m', a, b', c⟩ := h8 r hr'
    exact ⟨m', a, by rw [mIsI, if_neg (by omega), mIsI, if_neg (by omega)]; exact b', c⟩)]
  simp only [Option.bind_some]
  have hg : ∀ v : Int32, v = nI (FS (hvN σ n) (tks tk p b true)) → ∀ τ, (τ = sI (sI (sI σ 8 0 p (nI (m ^^^ 2 ^ b))) 9 0 k (nI (FK (hvN σ n) tk k) + (-1))) 7 0 4 v ∨ (τ = sI (sI σ 8 0 p (nI (m ^^^ 2 ^ b))) 9 0 k (nI (FK (hvN σ n) tk k) + (-1)) ∧ v = mI σ 7 0 4)) → Fx [8, 9] [(7, 4)] σ τ ∧ VR τ (hvN σ n) (tks tk p b true) nd := by
    intro v hv τ hτ
    have a8 : ∀ j, mI τ 8 0 j = mI (sI σ 8 0 p (nI (m ^^^ 2 ^ b))) 8 0 j := fun j => by
      rcases hτ with rfl | ⟨rfl, -⟩
      · rw [mIsI, if_neg (by omega), mIsI, if_neg (by omega)]
      · rw [mIsI, if_neg (by omega)]
    have a9 : ∀ j, mI τ 9 0 j = mI (sI σ 9 0 k (nI (FK (hvN σ n) tk k) + (-1))) 9 0 j := fun j => by
      rcases hτ with rfl | ⟨rfl, -⟩
      · rw [mIsI, if_neg (by omega), mIsI, mIsI, mIsI, if_neg (show ¬ (9 = 8 ∧ 0 = 0 ∧ j = p) by omega)]
      · rw [mIsI, mIsI, mIsI, if_neg (show ¬ (9 = 8 ∧ 0 = 0 ∧ j = p) by omega)]
    have a10 : ∀ j, mI τ 10 0 j = mI σ 10 0 j := fun j => by
      rcases hτ with rfl | ⟨rfl, -⟩
      · rw [mIsI, if_neg (by omega), mIsI, if_neg (by omega), mIsI, if_neg (by omega)]
      · rw [mIsI, if_neg (by omega), mIsI, if_neg (by omega)]
    have a7 : mI τ 7 0 4 = v := by
      rcases hτ with rfl | ⟨rfl, e⟩
      · rw [mIsI, if_pos ⟨rfl, rfl, rfl⟩]
      · rw [mIsI, if_neg (by omega), mIsI, if_neg (by omega), e]
    refine ⟨?_, fun r hr' => ?_, fun j hj => ?_, fun w hw => by rw [a10, h10 w hw], by rw [a7, hv]⟩
    · rcases hτ with rfl | ⟨rfl, -⟩
      · exact ((Fx.rf.sI).sI).sI
      · exact (Fx.rf.sI).sI
    · rw [a8, mIsI]
      by_cases e : r = p
      · subst e
        refine ⟨m ^^^ 2 ^ b, (xorI m m1 b hb).2, by rw [if_pos ⟨rfl, rfl, rfl⟩], fun b' => ?_⟩
        rw [fb_bit_flip, m3, fu_tks]
        by_cases e2 : b' = b
        · subst e2; simp [hu]
        · simp [e2]
      · obtain ⟨m', x, y, z⟩ := h8 r hr'
        refine ⟨m', x, by rw [if_neg (fun q => e q.2.2)]; exact y, fun b' => ?_⟩
        rw [z, fu_tks, if_neg (fun q => e q.1)]
    · rw [a9, mIsI]
      by_cases e : j = k
      · subst e
        rw [if_pos ⟨rfl, rfl, rfl⟩, ← eF, pk_m1]
      · rw [if_neg (fun q => e q.2.2), h9 j hj]
        have := FK_tks hp hb hu j
        rw [if_neg (by omega), Nat.add_zero] at this
        rw [this]
  by_cases hf : pf (hvN σ n) tk p = true
  · rw [if_pos hf]
    simp only [show ¬ ((1 : Int32) = 0) by decide, if_false]
    rw [if_pos ⟨pf_b0 hW hu hf, hf⟩] at eS
    refine ⟨_, rfl, hg _ ?_ _ (Or.inl rfl)⟩
    rw [mIsI, if_neg (by omega), mIsI, if_neg (by omega), h7, ← eS, pk_m1]
  · rw [if_neg hf]
    simp only [if_true]
    rw [if_neg (fun z => hf z.2), Nat.add_zero] at eS
    exact ⟨_, rfl, hg _ (by rw [h7, eS]) _ (Or.inr ⟨rfl, rfl⟩)⟩
theorem turn_up {σ : Mem} {H : HV} {n p b : Nat} {tk : TK} {nd : ND} (hI : HI σ) (hH : hvN σ n = H) (hb : b < 6) (hu : fu H tk p b = true) (hV : VR σ H (tks tk p b true) nd) : ∃ σ', kV_turn σ (nI p) (nI b) 1 = some ((), σ') ∧ Fx [8, 9] [(7, 4)] σ σ' ∧ VR σ' H tk nd := by
  subst hH
  have hW := WHN (n := n) hI
  have hp := fu_lt hW hu
  have ho : opn σ p n = true := (fu_iff.mp hu).1
  have hr := opn_rm ho
  obtain ⟨h8, h9, h10, h7⟩ := hV
  obtain ⟨m, m1, m2, m3⟩ := h8 p hp
  obtain ⟨k, hk, ek⟩ := kd_nat hI hr
  have hkd : (hvN σ n).2.1 p = k := by rw [kd_N ho, ek, ix_]
  have eF := FK_tks hp hb hu k
  rw [if_pos hkd] at eF
  have eS := FS_tks hW hu
  rw [turn_ev hI hp hb hr m1 m2 hk ek (h9 k hk)]
  rw [nb_free (tk := tk) hI hp ho (fun r hr' hne => by
    obtain ⟨m', a, b', c⟩ := h8 r hr'
    exact ⟨m', a, by rw [mIsI, if_neg (by omega), mIsI, if_neg (by omega)]; exact b', fun b2 => by rw [c, fu_tks, if_neg (fun q => hne q.1)]⟩)]
  simp only [Option.bind_some]
  have hg : ∀ v : Int32, v = nI (FS (hvN σ n) tk) → ∀ τ, (τ = sI (sI (sI σ 8 0 p (nI (m ^^^ 2 ^ b))) 9 0 k (nI (FK (hvN σ n) (tks tk p b true) k) + 1)) 7 0 4 v ∨ (τ = sI (sI σ 8 0 p (nI (m ^^^ 2 ^ b))) 9 0 k (nI (FK (hvN σ n) (tks tk p b true) k) + 1) ∧ v = mI σ 7 0 4)) → Fx [8, 9] [(7, 4)] σ τ ∧ VR τ (hvN σ n) tk nd := by
    intro v hv τ hτ
    have a8 : ∀ j, mI τ 8 0 j = mI (sI σ 8 0 p (nI (m ^^^ 2 ^ b))) 8 0 j := fun j => by
      rcases hτ with rfl | ⟨rfl, -⟩
      · rw [mIsI, if_neg (by omega), mIsI, if_neg (by omega)]
      · rw [mIsI, if_neg (by omega)]
    have a9 : ∀ j, mI τ 9 0 j = mI (sI σ 9 0 k (nI (FK (hvN σ n) (tks tk p b true) k) + 1)) 9 0 j := fun j => by
      rcases hτ with rfl | ⟨rfl, -⟩
      · rw [mIsI, if_neg (by omega), mIsI, mIsI, mIsI, if_neg (show ¬ (9 = 8 ∧ 0 = 0 ∧ j = p) by omega)]
      · rw [mIsI, mIsI, mIsI, if_neg (show ¬ (9 = 8 ∧ 0 = 0 ∧ j = p) by omega)]
    have a10 : ∀ j, mI τ 10 0 j = mI σ 10 0 j := fun j => by
      rcases hτ with rfl | ⟨rfl, -⟩
      · rw [mIsI, if_neg (by omega), mIsI, if_neg (by omega), mIsI, if_neg (by omega)]
      · rw [mIsI, if_neg (by omega), mIsI, if_neg (by omega)]
    have a7 : mI τ 7 0 4 = v := by
      rcases hτ with rfl | ⟨rfl, e⟩
      · rw [mIsI, if_pos ⟨rfl, rfl, rfl⟩]
      · rw [mIsI, if_neg (by omega), mIsI, if_neg (by omega), e]
    refine ⟨?_, fun r hr' => ?_, fun j hj => ?_, fun w hw => by rw [a10, h10 w hw], by rw [a7, hv]⟩
    · rcases hτ with rfl | ⟨rfl, -⟩
      · exact ((Fx.rf.sI).sI).sI
      · exact (Fx.rf.sI).sI
    · rw [a8, mIsI]
      by_cases e : r = p
      · subst e
        refine ⟨m ^^^ 2 ^ b, (xorI m m1 b hb).2, by rw [if_pos ⟨rfl, rfl, rfl⟩], fun b' => ?_⟩
        rw [fb_bit_flip, m3, fu_tks]
        by_cases e2 : b' = b
        · subst e2; simp [hu]
        · simp [e2]
      · obtain ⟨m', x, y, z⟩ := h8 r hr'
        refine ⟨m', x, by rw [if_neg (fun q => e q.2.2)]; exact y, fun b' => ?_⟩
        rw [z, fu_tks, if_neg (fun q => e q.1)]
    · rw [a9, mIsI]
      by_cases e : j = k
      · subst e
        rw [if_pos ⟨rfl, rfl, rfl⟩, ← eF, nI_1]
      · rw [if_neg (fun q => e q.2.2), h9 j hj]
        have := FK_tks hp hb hu j
        rw [if_neg (by omega), Nat.add_zero] at this
        rw [this]
  by_cases hf : pf (hvN σ n) tk p = true
  · rw [if_pos hf]
    simp only [show ¬ ((1 : Int32) = 0) by decide, if_false]
    rw [if_pos ⟨pf_b0 hW hu hf, hf⟩] at eS
    refine ⟨_, rfl, hg _ ?_ _ (Or.inl rfl)⟩
    rw [mIsI, if_neg (by omega), mIsI, if_neg (by omega), h7, ← eS, nI_1]
  · rw [if_neg hf]
    simp only [if_true]
    rw [if_neg (fun z => hf z.2), Nat.add_zero] at eS
    exact ⟨_, rfl, hg _ (by rw [h7, eS]) _ (Or.inr ⟨rfl, rfl⟩)⟩
theorem tks_comm {tk : TK} {p b p' b' : Nat} : tks (tks tk p b true) p' b' true = tks (tks tk p' b' true) p b true := by
  funext x y
  unfold tks
  by_cases h1 : x = p ∧ y = b
  · by_cases h2 : x = p' ∧ y = b' <;> simp [h1, h2]
  · by_cases h2 : x = p' ∧ y = b' <;> simp [h1, h2]
theorem nds_same {nd : ND} {w : Nat} (h : 1 ≤ nd w) : nds (nds nd w (nd w - 1)) w ((nds nd w (nd w - 1)) w + 1) = nd := by
  funext x
  unfold nds
  by_cases e : x = w
  · subst e; simp; omega
  · simp [e]
theorem take_none {σ : Mem} {x : Int32} : kV_take σ (-1) x = some (0, σ) := by
  unfold kV_take kG_placeOf kG_bedOf kG_isSuite
  simp only [Option.bind_some, show ((-1 : Int32) >>> ((5 : Int32) &&& 31)) = -1 by decide, show ((-1 : Int32) < 0) by decide, if_true]
  rw [isFree_out (Or.inl (by decide))]
  rfl
/-- take is give -/
theorem take_ok {σ : Mem} {H : HV} {n w s : Nat} {tk : TK} {nd : ND} (hI : HI σ) (hH : hvN σ n = H) (hV : VR σ H tk nd) (hb : ∀ w, w < 5 → nd w ≤ 300) (hw : w < 5) (h1 : 1 ≤ nd w) (hs : s < 512) (hs4 : s % 4 ≤ 1) (hsu : frS H tk s = true → suS H w s = true) :
    ∃ r σ', kV_take σ (nI s) (nI w) = some (r, σ') ∧ Fx [8, 9, 10] [(7, 4)] σ σ' ∧ ((r = 1 ∧ ∃ y, give H w s (tk, nd) = some y ∧ VR σ' H y.1 y.2) ∨ (r = 0 ∧ give H w s (tk, nd) = none ∧ VR σ' H tk nd)) := by
  have hW : WH H := by rw [← hH]; exact WHN hI
  obtain ⟨c1, c2, c3⟩ := codeI s hs
  have hsuite : kG_isSuite σ (nI s) = some (if s % 4 = 1 then 1 else 0, σ) := by
    unfold kG_isSuite
    rw [if_neg nn0, c3]
    by_cases e : s % 4 = 1
    · rw [if_pos e, show s % 2 = 1 by omega, if_pos (show nI 1 = 1 from rfl)]
    · rw [if_neg e, show s % 2 = 0 by omega, if_neg (by decide)]
  have i1 := isFree_VR (p := s / 32) (b := s % 32 / 4) hW hV (by omega) (by omega)
  have i2 : kV_isFree σ (nI (s / 32) + 1) 0 = some (if fu H tk (s / 32 + 1) 0 = true then 1 else 0, σ) := by
    rw [nI_1]
    exact isFree_VR (b := 0) hW hV (by omega) (by omega)
  have hz : give H w s (tk, nd) = none → kV_take σ (nI s) (nI w) = some (0, σ) → ∃ r σ', kV_take σ (nI s) (nI w) = some (r, σ') ∧ Fx [8, 9, 10] [(7, 4)] σ σ' ∧ ((r = 1 ∧ ∃ y, give H w s (tk, nd) = some y ∧ VR σ' H y.1 y.2) ∨ (r = 0 ∧ give H w s (tk, nd) = none ∧ VR σ' H tk nd)) :=
    fun g e => ⟨0, σ, e, Fx.rf, Or.inr ⟨rfl, g, hV⟩⟩
  by_cases f1 : fu H tk (s / 32) (s % 32 / 4) = true
  · have hb6 : s % 32 / 4 < 6 := by
      have a := fu_iff.mp f1
      have := (hW.2 _ (fu_lt hW f1) a.1).2.2.2.1
      omega
    rw [if_pos f1] at i1
    by_cases e4 : s % 4 = 1
    · rw [if_pos e4] at hsuite
      by_cases f2 : fu H tk (s / 32 + 1) 0 = true
      · rw [if_pos f2] at i2
        have hfr : frS H tk s = true := by
          unfold frS
          rw [f1, f2]
          simp
        have hs2 := hsu hfr
        have hev : kV_take σ (nI s) (nI w) = kV_take_j45 σ (nI w) (nI (s / 32)) (nI (s % 32 / 4)) 1 := by
          unfold kV_take kG_placeOf kG_bedOf
          simp only [Option.bind_some, c1, c2, hsuite, i1, i2, show ¬ ((1 : Int32) = 0) by decide, if_false]
        rw [hev]
        unfold kV_take_j45
        obtain ⟨τ1, t1, t2, t3⟩ := dropNeed_ok hw hV h1
        have hI1 := HI.fx t2 rfl hI
        obtain ⟨τ2, t4, t5, t6⟩ := turn_dn hI1 (show hvN τ1 n = H by rw [hvN_fx t2 rfl]; exact hH) t3 hb6 f1
        have hI2 := HI.fx t5 rfl hI1
        have f2' : fu H (tks tk (s / 32) (s % 32 / 4) true) (s / 32 + 1) 0 = true := by
          rw [fu_tks, if_neg (by omega)]
          exact f2
        obtain ⟨τ3, t7, t8, t9⟩ := turn_dn hI2 (show hvN τ2 n = H by rw [hvN_fx t5 rfl, hvN_fx t2 rfl]; exact hH) t6 (show (0 : Nat) < 6 by omega) f2'
        have hI3 := HI.fx t8 rfl hI2
        have hF3 : Fx [8, 9, 10] [(7, 4)] σ τ3 := ((t2.wk rfl rfl).tr (t5.wk rfl rfl)).tr (t8.wk rfl rfl)
        have hnb : ∀ w', w' < 5 → nds nd w (nd w - 1) w' ≤ 300 := fun w' hw' => by
          unfold nds
          have := hb w hw
          have := hb w' hw'
          split <;> omega
        have hft := fits_ok hW t9 hnb
        have htk : tkS tk s = tks (tks tk (s / 32) (s % 32 / 4) true) (s / 32 + 1) 0 true := by
          unfold tkS
          rw [if_pos e4]
        simp only [t1, Option.bind_some, t4, show ¬ ((1 : Int32) = 0) by decide, if_false, nI_1, show kV_turn τ2 (nI (s / 32 + 1)) 0 (-1) = some ((), τ3) from t7]
        unfold kV_take_j72
        rw [hft, ← htk]
        by_cases hfit : fit H (tkS tk s) (nds nd w (nd w - 1)) = true
        · rw [if_pos hfit]
          simp only [Option.bind_some, show ¬ ((1 : Int32) = 0) by decide, if_false]
          refine ⟨1, τ3, rfl, hF3, Or.inl ⟨rfl, (tkS tk s, nds nd w (nd w - 1)), ?_, by rw [htk]; exact t9⟩⟩
          unfold give
          exact if_pos ⟨hs2, hfr, hfit⟩
        · rw [if_neg hfit]
          have hg : give H w s (tk, nd) = none := by
            unfold give
            exact if_neg (fun z => hfit z.2.2)
          obtain ⟨τ4, u1, u2, u3⟩ := addNeed_ok hw t9
          rw [nds_same h1, tks_comm] at u3
          have hI4 := HI.fx u2 rfl hI3
          have f1' : fu H (tks tk (s / 32 + 1) 0 true) (s / 32) (s % 32 / 4) = true := by
            rw [fu_tks, if_neg (by omega)]
            exact f1
          obtain ⟨τ5, u4, u5, u6⟩ := turn_up hI4 (show hvN τ4 n = H by rw [hvN_fx u2 rfl, hvN_fx hF3 rfl]; exact hH) hb6 f1' u3
          have hI5 := HI.fx u5 rfl hI4
          obtain ⟨τ6, u7, u8, u9⟩ := turn_up hI5 (show hvN τ5 n = H by rw [hvN_fx u5 rfl, hvN_fx u2 rfl, hvN_fx hF3 rfl]; exact hH) (show (0 : Nat) < 6 by omega) f2 u6
          simp only [Option.bind_some, if_true, u1, u4, show ¬ ((1 : Int32) = 0) by decide, if_false, nI_1, show kV_turn τ5 (nI (s / 32 + 1)) 0 1 = some ((), τ6) from u7]
          exact ⟨0, τ6, rfl, ((hF3.tr (u2.wk rfl rfl)).tr (u5.wk rfl rfl)).tr (u8.wk rfl rfl), Or.inr ⟨rfl, hg, u9⟩⟩
      · rw [if_neg f2] at i2
        refine hz ?_ ?_
        · unfold give
          refine if_neg (fun z => ?_)
          have := z.2.1
          unfold frS at this
          simp [e4, f2] at this
        · unfold kV_take kG_placeOf kG_bedOf
          simp only [Option.bind_some, c1, c2, hsuite, i1, i2, show ¬ ((1 : Int32) = 0) by decide, if_false, if_true]
    · rw [if_neg e4] at hsuite
      have hfr : frS H tk s = true := by
        unfold frS
        rw [f1]
        simp [e4]
      have hs2 := hsu hfr
      have hev : kV_take σ (nI s) (nI w) = kV_take_j45 σ (nI w) (nI (s / 32)) (nI (s % 32 / 4)) 0 := by
        unfold kV_take kG_placeOf kG_bedOf
        simp only [Option.bind_some, c1, c2, hsuite, i1, show ¬ ((1 : Int32) = 0) by decide, if_false, if_true]
      rw [hev]
      unfold kV_take_j45
      obtain ⟨τ1, t1, t2, t3⟩ := dropNeed_ok hw hV h1
      have hI1 := HI.fx t2 rfl hI
      obtain ⟨τ2, t4, t5, t6⟩ := turn_dn hI1 (show hvN τ1 n = H by rw [hvN_fx t2 rfl]; exact hH) t3 hb6 f1
      have hI2 := HI.fx t5 rfl hI1
      have hF2 : Fx [8, 9, 10] [(7, 4)] σ τ2 := (t2.wk rfl rfl).tr (t5.wk rfl rfl)
      have hnb : ∀ w', w' < 5 → nds nd w (nd w - 1) w' ≤ 300 := fun w' hw' => by
        unfold nds
        have := hb w hw
        have := hb w' hw'
        split <;> omega
      have hft := fits_ok hW t6 hnb
      have htk : tkS tk s = tks tk (s / 32) (s % 32 / 4) true := by
        unfold tkS
        rw [if_neg e4]
      simp only [t1, Option.bind_some, t4, if_true]
      unfold kV_take_j72
      rw [hft, ← htk]
      by_cases hfit : fit H (tkS tk s) (nds nd w (nd w - 1)) = true
      · rw [if_pos hfit]
        simp only [Option.bind_some, show ¬ ((1 : Int32) = 0) by decide, if_false]
        refine ⟨1, τ2, rfl, hF2, Or.inl ⟨rfl, (tkS tk s, nds nd w (nd w - 1)), ?_, by rw [htk]; exact t6⟩⟩
        unfold give
        exact if_pos ⟨hs2, hfr, hfit⟩
      · rw [if_neg hfit]
        have hg : give H w s (tk, nd) = none := by
          unfold give
          exact if_neg (fun z => hfit z.2.2)
        obtain ⟨τ4, u1, u2, u3⟩ := addNeed_ok hw t6
        rw [nds_same h1] at u3
        have hI4 := HI.fx u2 rfl hI2
        obtain ⟨τ5, u4, u5, u6⟩ := turn_up hI4 (show hvN τ4 n = H by rw [hvN_fx u2 rfl, hvN_fx hF2 rfl]; exact hH) hb6 f1 u3
        simp only [Option.bind_some, if_true, u1, u4]
        exact ⟨0, τ5, rfl, (hF2.tr (u2.wk rfl rfl)).tr (u5.wk rfl rfl), Or.inr ⟨rfl, hg, u6⟩⟩
  · rw [if_neg f1] at i1
    refine hz ?_ ?_
    · unfold give
      refine if_neg (fun z => ?_)
      have := z.2.1
      unfold frS at this
      simp [f1] at this
    · unfold kV_take kG_placeOf kG_bedOf
      simp only [Option.bind_some, c1, c2, hsuite, i1, if_true]
