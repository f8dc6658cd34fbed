theorem wcost_fx {l : List Nat} {m : List (Nat × Nat)} {σ σ' : Mem} {R d w : Nat} (h : Fx l m σ σ') (hn : nohit [57, 58, 59, 60, 61] l m = true) (a b : Nat) : cst σ' R d w a b = cst σ R d w a b := by
  unfold cst Sm zz
  congr 1
  congr 1
  · exact fb_sm_cong (fun k _ => by unfold prc; rw [h.hI hn 57 0])
  · congr 2
    exact fb_si_cong (fun k _ => by unfold rc; rw [h.hI hn 61 0 k, h.hI hn 58 0 k, h.hI hn 59 0 k, h.hI hn 60 0 k])
theorem mE_fx {l : List Nat} {m : List (Nat × Nat)} {σ σ' : Mem} {R : Nat} (h : Fx l m σ σ') (hn : nohit [57, 58, 59, 60, 61] l m = true) (n : Nat) : mE σ' R n = mE σ R n := by
  unfold mE
  rw [fb_ct_cong (q := fbd σ n) (fun k _ => by unfold fbd; rw [h.hI hn 61 0 k, h.hI hn 58 0 k, h.hI hn 59 0 k])]
theorem tbl_fx {l : List Nat} {m : List (Nat × Nat)} {σ σ' : Mem} {R d w a : Nat} (h : Fx l m σ σ') (hn : nohit [57, 58, 59, 60, 61] l m = true) : ∀ j, tbl σ' R d w a j = tbl σ R d w a j
  | 0 => rfl
  | j + 1 => by
    unfold tbl
    rw [tbl_fx h hn j, mE_fx h hn]
    have : (fun m => cst σ' R d w m (a + (j + 1))) = (fun m => cst σ R d w m (a + (j + 1))) := funext fun m => wcost_fx h hn m _
    rw [this]
theorem lst_fx {l : List Nat} {m : List (Nat × Nat)} {σ σ' : Mem} {R d w a b : Nat} (h : Fx l m σ σ') (hn : nohit [57, 58, 59, 60, 61] l m = true) : lst σ' R d w a b = lst σ R d w a b := by
  unfold lst
  rw [tbl_fx h hn]
theorem ways_in {σ : Mem} {R d w a e : Nat} {t : Nat → CP} {b : Int32} (hT : TI σ R) (hday : mI σ 30 0 8 = nI d) (hw : w < 5) (hd : d ≤ a) (hae : a < e) (he : e ≤ 60) (ht : ∀ m y, t m = some y → y.1 ≤ 100000000000 ∧ y.2 ≤ 60) (hB : TB σ 63 64 a e t) (hn : mL σ 63 0 e = -1) :
    ∃ τ, loopF FU (kM_ways_s38 (nI w) (nI a) b (nI e)) (nI a, σ) = some τ ∧ Fx [63, 64] [] σ τ ∧ TB τ 63 64 a e t ∧ mL τ 63 0 e = ec (bu (cand t (mE σ R e) (fun m => cst σ R d w m e)) a (e - a)) ∧ ∀ y, bu (cand t (mE σ R e) (fun m => cst σ R d w m e)) a (e - a) = some y → mI τ 64 0 e = nI y.2 := by
  obtain ⟨f, hf⟩ : ∃ f, f = cand t (mE σ R e) (fun m => cst σ R d w m e) := ⟨_, rfl⟩
  rw [← hf]
  have hfb : ∀ j y, j ≤ e - a → bu f a j = some y → y.1 ≤ 102000000000 ∧ y.2 ≤ 61 := fun j y hj hy => by
    obtain ⟨m, hm, e2⟩ := (bu_M f a j).2 y hy
    rw [hf] at e2
    cases ok : mE σ R e with
    | false => rw [ok, cand_no] at e2; cases e2
    | true =>
      rw [ok] at e2
      cases q : t m with
      | none => rw [cand_none q] at e2; cases e2
      | some z =>
        rw [cand_some q] at e2
        cases e2
        have h1 := ht m z q
        have h2 := (cst_bd (d := d) hT hw (show m ≤ e by omega) he).2
        exact ⟨by show z.1 + cst σ R d w m e ≤ _; omega, by show z.2 + 1 ≤ _; omega⟩
  refine lp_inv (f := kM_ways_s38 (nI w) (nI a) b (nI e)) (fun j s => ∃ τ, s = (nI (a + j), τ) ∧ Fx [63, 64] [] σ τ ∧ TB τ 63 64 a e t ∧ mL τ 63 0 e = ec (bu f a j) ∧ ∀ y, bu f a j = some y → mI τ 64 0 e = nI y.2) _ (e - a) (by omega) (fun j s hj hs => ?_) (fun s hs => ?_) ⟨σ, rfl, Fx.rf, hB, hn, fun y hy => by cases hy⟩
  · obtain ⟨τ, rfl, a1, a2, a3, a4⟩ := hs
    refine Or.inl ?_
    obtain ⟨s, hs⟩ : ∃ s, s = a + j := ⟨_, rfl⟩
    have hTt := TI.fx a1 rfl rfl hT
    obtain ⟨b1, b2⟩ := a2 s (by omega) (by omega)
    have hbs : bu f a (j + 1) = lm (bu f a j) (f s) := by rw [hs]; rfl
    have hskip : f s = none → ∃ s', some (Sum.inl (nI s + 1, τ)) = some (Sum.inl (β := Mem) s') ∧ ∃ τ', s' = (nI (a + (j + 1)), τ') ∧ Fx [63, 64] [] σ τ' ∧ TB τ' 63 64 a e t ∧ mL τ' 63 0 e = ec (bu f a (j + 1)) ∧ ∀ y, bu f a (j + 1) = some y → mI τ' 64 0 e = nI y.2 := fun hfs =>
      ⟨_, rfl, τ, by rw [nI_1, hs]; rfl, a1, a2, by rw [hbs, hfs]; exact a3, by rw [hbs, hfs]; exact a4⟩
    rw [← hs]
    simp only [kM_ways_s38, nge (show s < e by omega) (by omega), if_false, inr_ (show s < 61 by omega), if_true, ix_ (show s < 2 ^ 31 by omega), cmp0, b1]
    cases q : t s with
    | none =>
      have hfs : f s = none := by rw [hf, cand_none q]
      rw [show ec none = -1 from rfl, if_pos rfl]
      unfold kM_ways_j74
      simp only [cmp0, if_true]
      exact hskip hfs
    | some z =>
      have hz := ht s z q
      have hcb := cst_bd (d := d) (m := s) (n := e) hT hw (by omega) he
      rw [show ec (some z) = lN z.1 from rfl, if_neg (lN_m1 (by omega))]
      have hcost := mcost_ok (d := d) (a := s) (b := e) hTt (by rw [a1.I 30 0 8]; exact hday) hw (by omega) (by omega) he
      rw [mE_fx a1 rfl, wcost_fx a1 rfl] at hcost
      rw [hcost]
      simp only [Option.bind_some]
      cases ok : mE σ R e with
      | false =>
        have hfs : f s = none := by rw [hf, ok]; rfl
        unfold kM_ways_j74
        simp only [Bool.false_eq_true, if_false, cmp0, if_true]
        exact hskip hfs
      | true =>
        have hfs : f s = some (z.1 + cst σ R d w s e, z.2 + 1) := by rw [hf, ok, cand_some q]
        rw [if_pos rfl]
        unfold kM_ways_j74
        rw [q] at b1
        simp only [cmp0, lN_m1 (show cst σ R d w s e < 2 ^ 63 by omega), if_false, inr_ (show s < 61 by omega), inr_ (show e < 61 by omega), if_true, ix_ (show s < 2 ^ 31 by omega), ix_ (show e < 2 ^ 31 by omega), b1, b2 z q, show ec (some z) = lN z.1 from rfl, lN_add, nI_1, a3, Nat.add_comm (cst σ R d w s e) z.1]
        have hset : ∀ v : CP, v = some (z.1 + cst σ R d w s e, z.2 + 1) → lm (bu f a j) (f s) = v → ∃ s', kM_ways_j166 τ (nI w) (nI a) b (nI e) (nI s) (lN (z.1 + cst σ R d w s e)) (nI (z.2 + 1)) = some (Sum.inl s') ∧ ∃ τ', s' = (nI (a + (j + 1)), τ') ∧ Fx [63, 64] [] σ τ' ∧ TB τ' 63 64 a e t ∧ mL τ' 63 0 e = ec (bu f a (j + 1)) ∧ ∀ y, bu f a (j + 1) = some y → mI τ' 64 0 e = nI y.2 := by
          intro v hv hlm
          unfold kM_ways_j166
          simp only [inr_ (show e < 61 by omega), if_true, ix_ (show e < 2 ^ 31 by omega)]
          refine ⟨_, rfl, _, by rw [nI_1, show a + (j + 1) = s + 1 by omega], (a1.sL).sI, fun m h1 h2 => ?_, ?_, fun y hy => ?_⟩
          · rw [mLsI, mLsL, if_neg (by omega), mIsI, if_neg (by omega), mIsL]
            exact a2 m h1 h2
          · rw [mLsI, mLsL, if_pos ⟨rfl, rfl, rfl⟩, hbs, hlm, hv]
            rfl
          · rw [hbs, hlm, hv] at hy
            cases hy
            rw [mIsI, if_pos ⟨rfl, rfl, rfl⟩]
        have hkeep : ∀ r, bu f a j = some r → lm (bu f a j) (f s) = some r → ∃ s', some (Sum.inl (nI (s + 1), τ)) = some (Sum.inl (β := Mem) s') ∧ ∃ τ', s' = (nI (a + (j + 1)), τ') ∧ Fx [63, 64] [] σ τ' ∧ TB τ' 63 64 a e t ∧ mL τ' 63 0 e = ec (bu f a (j + 1)) ∧ ∀ y, bu f a (j + 1) = some y → mI τ' 64 0 e = nI y.2 := by
          intro r hr hlm
          refine ⟨_, rfl, τ, by rw [hs]; rfl, a1, a2, by rw [hbs, hlm, ← hr]; exact a3, fun y hy => a4 y ?_⟩
          rw [hbs, hlm] at hy
          rw [hr]
          exact hy
        cases r : bu f a j with
        | none =>
          rw [show ec none = -1 from rfl, if_pos rfl]
          exact hset _ rfl (by rw [r, hfs]; rfl)
        | some y =>
          have hy := hfb j y (by omega) r
          have hpy := a4 y r
          rw [show ec (some y) = lN y.1 from rfl, if_neg (lN_m1 (by omega))]
          obtain ⟨c1, c2⟩ := cmpN (a := y.1) (b := z.1 + cst σ R d w s e) (by omega) (by omega)
          have hlm : lm (bu f a j) (f s) = if z.1 + cst σ R d w s e < y.1 ∨ (z.1 + cst σ R d w s e = y.1 ∧ z.2 + 1 < y.2) then some (z.1 + cst σ R d w s e, z.2 + 1) else some y := by
            rw [r, hfs]
            rfl
          by_cases k1 : y.1 < z.1 + cst σ R d w s e
          · rw [if_pos (c1.mpr k1)]
            exact hkeep y r (by rw [hlm, if_neg (by omega)])
          · rw [if_neg (fun q => k1 (c1.mp q))]
            by_cases k2 : y.1 = z.1 + cst σ R d w s e
            · rw [if_pos (by rw [k2]), hpy]
              by_cases k3 : z.2 + 1 < y.2
              · rw [if_pos (nI_lt k3 (by omega))]
                exact hset _ rfl (by rw [hlm, if_pos (Or.inr ⟨k2.symm, k3⟩)])
              · rw [if_neg (nI_nlt (by omega) (by omega))]
                exact hkeep y r (by rw [hlm, if_neg (by omega)])
            · rw [if_neg (fun q => k2 ((fb_lN_inj (by omega) (by omega)).mp q))]
              exact hset _ rfl (by rw [hlm, if_pos (Or.inl (by omega))])
  · obtain ⟨τ, rfl, a1, a2⟩ := hs
    refine ⟨τ, ?_, a1, a2⟩
    rw [show a + (e - a) = e by omega]
    simp only [kM_ways_s38, nle (Nat.le_refl e) (by omega), if_true]
theorem ways_ok {σ : Mem} {R d w a b : Nat} (hT : TI σ R) (hday : mI σ 30 0 8 = nI d) (hw : w < 5) (hd : d ≤ a) (hab : a < b) (hb : b ≤ 60) :
    ∃ σ', kM_ways σ (nI w) (nI a) (nI b) = some ((), σ') ∧ Fx [63, 64] [] σ σ' ∧ mL σ' 63 0 b = ec (lst σ R d w a b) ∧ ∀ y, lst σ R d w a b = some y → mI σ' 64 0 b = nI y.2 := by
  unfold kM_ways
  simp only [inr_ (show a < 61 by omega), if_true, ix_ (show a < 2 ^ 31 by omega), nI_1]
  obtain ⟨τ, l1, l2, l3⟩ := lp_inv (f := kM_ways_s19 (nI w) (nI a) (nI b)) (fun j s => ∃ τ, s = (nI (a + 1 + j), τ) ∧ Fx [63, 64] [] σ τ ∧ TB τ 63 64 a (a + 1 + j) (tbl σ R d w a j)) (fun τ => Fx [63, 64] [] σ τ ∧ TB τ 63 64 a (b + 1) (tbl σ R d w a (b - a))) (b - a) (by omega) (fun j s hj hs => by
    obtain ⟨τ, rfl, a1, a2⟩ := hs
    refine Or.inl ?_
    obtain ⟨e, he⟩ : ∃ e, e = a + 1 + j := ⟨_, rfl⟩
    have hF1 : Fx [63, 64] [] σ (sL τ 63 0 e (-1)) := a1.sL
    have hT1 := TI.fx hF1 rfl rfl hT
    have htb : ∀ m, m ≠ e → tbl σ R d w a (j + 1) m = tbl σ R d w a j m := fun m hm => if_neg (by omega)
    have hte : tbl σ R d w a (j + 1) e = bu (cand (tbl σ R d w a j) (mE σ R e) (fun m => cst σ R d w m e)) a (e - a) := by
      show (if e = a + (j + 1) then _ else _) = _
      rw [if_pos (by omega), show a + (j + 1) = e by omega, show e - a = j + 1 by omega]
    have hB1 : TB (sL τ 63 0 e (-1)) 63 64 a e (tbl σ R d w a j) := fun m h1 h2 => by
      rw [mLsL, if_neg (by omega), mIsL]
      exact a2 m h1 (by omega)
    rw [← he]
    obtain ⟨τ1, t1, t2, t3, t4, t5⟩ := ways_in (b := nI b) (t := tbl σ R d w a j) hT1 (by rw [hF1.I 30 0 8]; exact hday) hw hd (show a < e by omega) (by omega) (fun m y hy => by
      obtain ⟨x1, x2, x3, x4⟩ := tbl_bd hT hw j (by omega) m y hy
      exact ⟨by omega, by omega⟩) hB1 (by rw [mLsL, if_pos ⟨rfl, rfl, rfl⟩])
    rw [mE_fx hF1 rfl, show (fun m => cst (sL τ 63 0 e (-1)) R d w m e) = (fun m => cst σ R d w m e) from funext fun m => wcost_fx hF1 rfl m e] at t4 t5
    simp only [kM_ways_s19, nI_nlt (show e ≤ b by omega) (by omega), if_false, inr_ (show e < 61 by omega), if_true, ix_ (show e < 2 ^ 31 by omega), t1, Option.bind_some, kM_ways_x190]
    refine ⟨_, rfl, τ1, by rw [nI_1, he]; rfl, hF1.tr t2, fun m h1 h2 => ?_⟩
    by_cases q : m = e
    · rw [q, hte]
      exact ⟨t4, t5⟩
    · rw [htb m q]
      exact t3 m h1 (by omega)) (fun s hs => by
    obtain ⟨τ, rfl, a1, a2⟩ := hs
    rw [show a + 1 + (b - a) = b + 1 by omega] at a2 ⊢
    exact ⟨τ, by simp only [kM_ways_s19, nI_lt (show b < b + 1 by omega) (by omega), if_true], a1, a2⟩) (s := (nI (a + 1), sI (sL σ 63 0 a 0) 64 0 a 0)) ⟨_, rfl, (Fx.rf.sL).sI, fun m h1 h2 => by
      obtain rfl : m = a := by omega
      have e0 : tbl σ R d w m 0 m = some (0, 0) := if_pos rfl
      rw [e0, mLsI, mLsL, if_pos ⟨rfl, rfl, rfl⟩, mIsI, if_pos ⟨rfl, rfl, rfl⟩]
      exact ⟨rfl, fun y hy => by cases hy; rfl⟩⟩
  rw [l1]
  exact ⟨τ, rfl, l2, l3 b (by omega) (by omega)⟩
