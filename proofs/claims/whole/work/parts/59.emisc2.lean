theorem E_price {σ : Mem} {x1 x2 x3 x4 : Int32} (hI : INV σ) : EQ2 (fun σ => kG_price σ x1 x2 x3 x4) (fun σ => kM_price σ x1 x2 x3 x4) σ := by
  obtain ⟨N, d, P, R, hI⟩ := hI
  have hT := hI.2.2.2.2.2.2.1
  have hno : kG_price σ x1 x2 x3 x4 = some (0, σ) → kM_price σ x1 x2 x3 x4 = some (0, sI σ 30 0 0 0) → EQ2 (fun σ => kG_price σ x1 x2 x3 x4) (fun σ => kM_price σ x1 x2 x3 x4) σ := fun a b => ⟨0, σ, _, a, b, N, d, P, R, hI.thr⟩
  have i5 : ∀ x : Int32, 5 ≤ x ↔ 4 < x := fun x => by
    rw [Int32.le_iff_toInt_le, Int32.lt_iff_toInt_lt, show (5 : Int32).toInt = 5 by decide, show (4 : Int32).toInt = 4 by decide]
    omega
  rcases i32 x1 5 with h | h | ⟨w, hw, rfl⟩
  · refine hno ?_ ?_
    · unfold kG_price; rw [isWant_out (Or.inl h)]; rfl
    · unfold kM_price; rw [if_pos h]
  · have h0 : ¬ x1 < 0 := fun z => absurd (Int32.lt_of_lt_of_le z (nI_pos' (n := 5) (by omega))) (Int32.not_lt.mpr h)
    refine hno ?_ ?_
    · unfold kG_price; rw [isWant_out (Or.inr h)]; rfl
    · unfold kM_price; rw [if_neg h0, if_pos ((i5 x1).mp h)]
  · have hw4 : ¬ (4 : Int32) < nI w := fun z => absurd ((i5 _).mpr z) (nge hw)
    rcases span_cases σ x2 x3 with ⟨a, b, hab, hb, rfl, rfl⟩ | hsp
    · by_cases c0 : x4 < 0
      · refine hno ?_ ?_
        · unfold kG_price
          simp only [isWant_in hw, Option.bind_some, show ¬ ((1 : Int32) = 0) by decide, if_false, (span_in hab hb).1, c0, if_true]
        · unfold kM_price
          simp only [nn0 (show w < 2 ^ 31 by omega), if_false, hw4, (span_in hab hb).2, Option.bind_some, show ¬ ((1 : Int32) = 0) by decide, c0, if_true]
      · by_cases c1 : x4 ≤ 1000000
        · obtain ⟨v, hv, rfl⟩ := nI_of2 (M := 1000000) (n := 1000000) (by decide) c0 c1
          have hclass : ∃ σ1, kT_setAmount σ (nI w) (nI a) (nI b) (nI v) = some ((), σ1) ∧ Fx [16] [] σ σ1 ∧ ∀ w' n', mI σ1 16 w' n' = if w' = w ∧ a ≤ n' ∧ n' < b then nI v else mI σ 16 w' n' := by
            unfold kT_setAmount
            rw [isWant_in hw]
            simp only [Option.bind_some, show ¬ ((1 : Int32) = 0) by decide, if_false]
            rw [show jmax (nI a) 0 = nI a by rw [show (0 : Int32) = nI 0 from rfl, jmaxN (by omega) (by omega)]; congr 1; omega]
            obtain ⟨τ, l1, l2, l3⟩ := lp_inv (f := kT_setAmount_s15 (nI w) (nI b) (nI v)) (fun i s => ∃ τ, s = (nI (a + i), τ) ∧ Fx [16] [] σ τ ∧ ∀ w' n', mI τ 16 w' n' = if w' = w ∧ a ≤ n' ∧ n' < a + i then nI v else mI σ 16 w' n') (fun τ => Fx [16] [] σ τ ∧ ∀ w' n', mI τ 16 w' n' = if w' = w ∧ a ≤ n' ∧ n' < b then nI v else mI σ 16 w' n') (b - a) (by omega) (fun i s hi hs => by
              obtain ⟨τ, rfl, a1, a2⟩ := hs
              refine Or.inl ?_
              simp only [kT_setAmount_s15, nge (show a + i < b by omega) (by omega), if_false, show ¬ (60 : Int32) ≤ nI (a + i) from nge (show a + i < 60 by omega), inr_ hw, inr_ (show a + i < 60 by omega), if_true, ix_ (show w < 2 ^ 31 by omega), ix_ (show a + i < 2 ^ 31 by omega), nI_1]
              refine ⟨_, rfl, _, rfl, a1.sI, fun w' n' => ?_⟩
              rw [mIsI, a2]
              by_cases e : w' = w ∧ n' = a + i
              · rw [if_pos ⟨rfl, e⟩, if_pos ⟨e.1, by omega, by omega⟩]
              · rw [if_neg (fun z => e z.2)]
                by_cases e2 : w' = w ∧ a ≤ n' ∧ n' < a + i
                · rw [if_pos e2, if_pos ⟨e2.1, by omega, by omega⟩]
                · rw [if_neg e2, if_neg (by omega)]) (fun s hs => by
              obtain ⟨τ, rfl, a1, a2⟩ := hs
              rw [show a + (b - a) = b by omega] at a2 ⊢
              exact ⟨τ, by simp only [kT_setAmount_s15, nle (Nat.le_refl b) (by omega), if_true], a1, a2⟩) (s := (nI a, σ)) ⟨σ, rfl, Fx.rf, fun w' n' => by rw [if_neg (by omega)]⟩
            rw [l1]
            exact ⟨τ, rfl, l2, l3⟩
          obtain ⟨σ1, k1, k2, k3⟩ := hclass
          obtain ⟨σ2, l1, l2, l3⟩ := lp_inv (f := kM_price_s39 (nI w) (nI b) (nI v)) (fun i s => ∃ τ, s = (nI (a + i), τ) ∧ Fx [57] [] (sI σ1 30 0 0 0) τ ∧ ∀ w' n', n' < 60 → mI τ 57 0 (60 * w' + n') = if w' = w ∧ a ≤ n' ∧ n' < a + i then nI v else mI (sI σ1 30 0 0 0) 57 0 (60 * w' + n')) (fun τ => Fx [57] [] (sI σ1 30 0 0 0) τ ∧ ∀ w' n', n' < 60 → mI τ 57 0 (60 * w' + n') = if w' = w ∧ a ≤ n' ∧ n' < b then nI v else mI (sI σ1 30 0 0 0) 57 0 (60 * w' + n')) (b - a) (by omega) (fun i s hi hs => by
            obtain ⟨τ, rfl, a1, a2⟩ := hs
            refine Or.inl ?_
            simp only [kM_price_s39, nge (show a + i < b by omega) (by omega), if_false, ixq, inr_ (show 60 * w + (a + i) < 300 by omega), if_true, ix_ (show 60 * w + (a + i) < 2 ^ 31 by omega), nI_1]
            refine ⟨_, rfl, _, rfl, a1.sI, fun w' n' hn' => ?_⟩
            rw [mIsI, a2 w' n' hn']
            by_cases e : w' = w ∧ n' = a + i
            · rw [if_pos ⟨rfl, rfl, by rw [e.1, e.2]⟩, if_pos ⟨e.1, by omega, by omega⟩]
            · rw [if_neg (by omega)]
              by_cases e2 : w' = w ∧ a ≤ n' ∧ n' < a + i
              · rw [if_pos e2, if_pos ⟨e2.1, by omega, by omega⟩]
              · rw [if_neg e2, if_neg (by omega)]) (fun s hs => by
            obtain ⟨τ, rfl, a1, a2⟩ := hs
            rw [show a + (b - a) = b by omega] at a2 ⊢
            exact ⟨τ, by simp only [kM_price_s39, nle (Nat.le_refl b) (by omega), if_true], a1, a2⟩) (s := (nI a, sI σ1 30 0 0 0)) ⟨_, rfl, Fx.rf, fun w' n' _ => by rw [if_neg (by omega)]⟩
          refine ⟨1, σ1, σ2, ?_, ?_, N, d, P, R, ?_⟩
          · show kG_price σ _ _ _ _ = _
            unfold kG_price
            simp only [isWant_in hw, Option.bind_some, show ¬ ((1 : Int32) = 0) by decide, if_false, (span_in hab hb).1, c0, c1, if_true, k1]
          · show kM_price σ1 _ _ _ _ = _
            unfold kM_price
            simp only [nn0 (show w < 2 ^ 31 by omega), if_false, hw4, (span_in hab hb).2, Option.bind_some, show ¬ ((1 : Int32) = 0) by decide, c0, c1, if_true, l1, kM_price_x65]
          · have hF : Fx [16, 57] [(30, 0)] σ σ2 := ((k2.wk (l' := [16, 57]) (m' := [(30, 0)]) rfl rfl).sI (t := 30) (i := 0) (k := 0) (v := 0)).tr (l2.wk rfl rfl)
            refine INV'.tf hI (fun t i j g1 g2 => ?_) (fun t i _ => hF.V t i) ?_
            · have t16 : t ≠ 16 := fun z => g1 (by rw [z]; decide)
              have t57 : t ≠ 57 := fun z => g1 (by rw [z]; decide)
              simp only [List.mem_cons, List.not_mem_nil, or_false, not_or] at g2
              exact hF.1 t i j (by simp [t16, t57]) (by simpa using g2.2)
            · obtain ⟨t1, t2, t3, t4, t5, t6⟩ := hT
              refine ⟨t1, by rw [hF.I 14 0 2]; exact t2, by rw [hF.I 30 0 32]; exact t3, fun w' hw' n' hn' => ?_, fun j hj => ?_, fun j hj => by rw [hF.V, hF.R 17 0 j]; exact t6 j hj⟩
              · have q16 : mI σ2 16 w' n' = if w' = w ∧ a ≤ n' ∧ n' < b then nI v else mI σ 16 w' n' := by
                  rw [l2.I 16 w' n', mIsI, if_neg (show ¬ (16 = 30 ∧ w' = 0 ∧ n' = 0) by omega), k3]
                have q57 : mI σ2 57 0 (60 * w' + n') = if w' = w ∧ a ≤ n' ∧ n' < b then nI v else mI σ 57 0 (60 * w' + n') := by
                  rw [l3 w' n' hn', mIsI, if_neg (show ¬ (57 = 30 ∧ 0 = 0 ∧ 60 * w' + n' = 0) by omega), k2.I 57 0 _]
                rw [q16, q57]
                by_cases e : w' = w ∧ a ≤ n' ∧ n' < b
                · rw [if_pos e, if_pos e]
                  exact ⟨rfl, v, hv, rfl⟩
                · rw [if_neg e, if_neg e]
                  exact t4 w' hw' n' hn'
              · rw [hF.R 17 0 j, hF.I 23 j 0, hF.I 23 j 1, hF.I 23 j 2, hF.I 23 j 3, hF.I 58 0 j, hF.I 59 0 j, hF.I 60 0 j, hF.I 61 0 j]
                exact t5 j hj
        · refine hno ?_ ?_
          · unfold kG_price
            simp only [isWant_in hw, Option.bind_some, show ¬ ((1 : Int32) = 0) by decide, if_false, (span_in hab hb).1, c0, c1]
          · unfold kM_price
            simp only [nn0 (show w < 2 ^ 31 by omega), if_false, hw4, (span_in hab hb).2, Option.bind_some, show ¬ ((1 : Int32) = 0) by decide, c0, c1]
    · refine hno ?_ ?_
      · unfold kG_price
        simp only [isWant_in hw, Option.bind_some, show ¬ ((1 : Int32) = 0) by decide, if_false, (hsp _).1, if_true]
      · unfold kM_price
        simp only [nn0 (show w < 2 ^ 31 by omega), if_false, hw4, (hsp _).2, Option.bind_some, if_true]
def RC (x1 x2 x3 : Int32) : Prop := (x1 = 2 ∧ ¬ x2 < 0 ∧ ¬ 58 < x2) ∨ ((x1 = 0 ∨ x1 = 1) ∧ ¬ x2 < 1 ∧ ¬ 60 < x2 ∧ ¬ x3 < -100 ∧ ¬ 300 < x3)
theorem isRule_ok {σ : Mem} {x1 x2 x3 : Int32} : (RC x1 x2 x3 → kT_isRule σ x1 x2 x3 = some (1, σ)) ∧ (¬ RC x1 x2 x3 → kT_isRule σ x1 x2 x3 = some (0, σ)) := by
  unfold kT_isRule kT_isRule_j30 kT_isRule_j35 RC
  by_cases e2 : x1 = 2
  · subst e2
    by_cases c1 : x2 < 0
    · simp [c1]
    · by_cases c2 : 58 < x2
      · simp [c1, c2]
      · simp [c1, c2]
  · by_cases e0 : x1 = 0
    · subst e0
      by_cases c1 : x2 < 1
      · simp [c1]
      · by_cases c2 : 60 < x2
        · simp [c1, c2]
        · by_cases c3 : x3 < -100
          · simp [c1, c2, c3]
          · by_cases c4 : 300 < x3
            · simp [c1, c2, c3, c4]
            · simp [c1, c2, c3, c4]
    · by_cases e1 : x1 = 1
      · subst e1
        by_cases c1 : x2 < 1
        · simp [c1]
        · by_cases c2 : 60 < x2
          · simp [c1, c2]
          · by_cases c3 : x3 < -100
            · simp [c1, c2, c3]
            · by_cases c4 : 300 < x3
              · simp [c1, c2, c3, c4]
              · simp [c1, c2, c3, c4]
      · simp [e0, e1, e2]
theorem mrule_ok {σ : Mem} {x1 x2 x3 : Int32} {R : Nat} (hR : mI σ 30 0 32 = nI R) (h8 : R ≤ 8) : ((R = 8 ∨ ¬ RC x1 x2 x3) → kM_rule σ x1 x2 x3 = some (-1, sI σ 30 0 0 0)) ∧ (R < 8 → RC x1 x2 x3 → kM_rule σ x1 x2 x3 = some (nI R, sI (sI (sI (sI (sI (sI σ 30 0 0 0) 58 0 R x1) 59 0 R x2) 60 0 R x3) 61 0 R 1) 30 0 32 (nI (R + 1)))) := by
  have z32 : mI (sI σ 30 0 0 0) 30 0 32 = nI R := hR
  have e8 : nI R = 8 ↔ R = 8 := nI_eq (b := 8) (by omega) (by decide)
  have hj0 : kM_rule_j57 (sI σ 30 0 0 0) x1 x2 x3 0 = some (-1, sI σ 30 0 0 0) := by
    unfold kM_rule_j57
    rw [if_pos rfl]
    split
    · rfl
    · split
      · rfl
      · split <;> rfl
  have hj1 : kM_rule_j57 (sI σ 30 0 0 0) x1 x2 x3 1 = if R = 8 ∨ x1 < 0 ∨ 2 < x1 then some (-1, sI σ 30 0 0 0) else some (nI R, sI (sI (sI (sI (sI (sI σ 30 0 0 0) 58 0 R x1) 59 0 R x2) 60 0 R x3) 61 0 R 1) 30 0 32 (nI (R + 1))) := by
    unfold kM_rule_j57
    rw [z32]
    by_cases c : R = 8
    · rw [if_pos (e8.mpr c), if_pos (Or.inl c)]
    · rw [if_neg (fun z => c (e8.mp z))]
      by_cases c1 : x1 < 0
      · rw [if_pos c1, if_pos (Or.inr (Or.inl c1))]
      · rw [if_neg c1]
        by_cases c2 : 2 < x1
        · rw [if_pos c2, if_pos (Or.inr (Or.inr c2))]
        · have hn : ¬ (R = 8 ∨ x1 < 0 ∨ 2 < x1) := by simp [c, c1, c2]
          rw [if_neg c2, if_neg hn, if_neg (show ¬ ((1 : Int32) = 0) by decide)]
          have y1 : mI (sI (sI σ 30 0 0 0) 58 0 R x1) 30 0 32 = nI R := by simp [mIsI, mIsL, mIsR, mIsV, mIfI, mIsW, mLsI, mLsL, mLsR, mLsV, mLfI, mLsW, mRsI, mRsL, mRsR, mRsV, mRfI, mRsW, mVsI, mVsL, mVsR, mVsV, mVfI, mVsW]; exact hR
          have y2 : mI (sI (sI (sI σ 30 0 0 0) 58 0 R x1) 59 0 R x2) 30 0 32 = nI R := by simp [mIsI, mIsL, mIsR, mIsV, mIfI, mIsW, mLsI, mLsL, mLsR, mLsV, mLfI, mLsW, mRsI, mRsL, mRsR, mRsV, mRfI, mRsW, mVsI, mVsL, mVsR, mVsV, mVfI, mVsW]; exact hR
          have y3 : mI (sI (sI (sI (sI σ 30 0 0 0) 58 0 R x1) 59 0 R x2) 60 0 R x3) 30 0 32 = nI R := by simp [mIsI, mIsL, mIsR, mIsV, mIfI, mIsW, mLsI, mLsL, mLsR, mLsV, mLfI, mLsW, mRsI, mRsL, mRsR, mRsV, mRfI, mRsW, mVsI, mVsL, mVsR, mVsV, mVfI, mVsW]; exact hR
          have y4 : mI (sI (sI (sI (sI (sI σ 30 0 0 0) 58 0 R x1) 59 0 R x2) 60 0 R x3) 61 0 R 1) 30 0 32 = nI R := by simp [mIsI, mIsL, mIsR, mIsV, mIfI, mIsW, mLsI, mLsL, mLsR, mLsV, mLfI, mLsW, mRsI, mRsL, mRsR, mRsV, mRfI, mRsW, mVsI, mVsL, mVsR, mVsV, mVfI, mVsW]; exact hR
          simp only [inr_ (show R < 8 by omega), if_true, ix_ (show R < 2 ^ 31 by omega), y1, y2, y3, zn1, y4, nI_1]
          rw [mIsI, if_pos ⟨rfl, rfl, rfl⟩, nI_pred]
  have hge : ¬ (x1 = 0 ∨ x1 = 1 ∨ x1 = 2) → x1 < 0 ∨ 2 < x1 := fun h => by
    by_cases c1 : x1 < 0
    · exact Or.inl c1
    · refine Or.inr (Int32.not_le.mp fun z => h ?_)
      obtain ⟨j, hj, rfl⟩ := nI_of2 (M := 2) (n := 2) (by decide) c1 z
      rcases (show j = 0 ∨ j = 1 ∨ j = 2 by omega) with rfl | rfl | rfl
      · exact Or.inl rfl
      · exact Or.inr (Or.inl rfl)
      · exact Or.inr (Or.inr rfl)
  have hlt : (x1 = 0 ∨ x1 = 1 ∨ x1 = 2) → ¬ (x1 < 0 ∨ 2 < x1) := fun h => by
    rcases h with rfl | rfl | rfl <;> decide
  have hform : kM_rule σ x1 x2 x3 = if (x1 = 2 ∧ ¬ x2 < 0 ∧ ¬ 58 < x2) ∨ (x1 ≠ 2 ∧ ¬ x2 < 1 ∧ ¬ 60 < x2 ∧ ¬ x3 < -100 ∧ ¬ 300 < x3) then kM_rule_j57 (sI σ 30 0 0 0) x1 x2 x3 1 else kM_rule_j57 (sI σ 30 0 0 0) x1 x2 x3 0 := by
    unfold kM_rule kM_rule_j24 kM_rule_j56
    by_cases e2 : x1 = 2
    · subst e2
      by_cases c1 : x2 < 0
      · simp [c1]
      · by_cases c2 : 58 < x2
        · simp [c1, c2]
        · simp [c1, c2]
    · by_cases c1 : x2 < 1
      · simp [e2, c1]
      · by_cases c2 : 60 < x2
        · simp [e2, c1, c2]
        · by_cases c3 : x3 < -100
          · simp [e2, c1, c2, c3]
          · by_cases c4 : 300 < x3
            · simp [e2, c1, c2, c3, c4]
            · simp [e2, c1, c2, c3, c4]
  refine ⟨fun h => ?_, fun hlt8 h => ?_⟩
  · rw [hform]
    split
    · rename_i hc
      rw [hj1, if_pos]
      rcases h with h | h
      · exact Or.inl h
      · right
        apply hge
        intro hx
        apply h
        unfold RC
        rcases hc with hc | hc
        · exact Or.inl hc
        · exact Or.inr ⟨by rcases hx with q | q | q; exact Or.inl q; exact Or.inr q; exact absurd q hc.1, hc.2⟩
    · exact hj0
  · rw [hform, if_pos]
    · rw [hj1, if_neg]
      intro z
      rcases z with z | z
      · omega
      · refine hlt ?_ z
        rcases h with h | h
        · exact Or.inr (Or.inr h.1)
        · exact h.1.elim Or.inl (fun q => Or.inr (Or.inl q))
    · rcases h with h | h
      · exact Or.inl h
      · refine Or.inr ⟨fun q => ?_, h.2⟩
        rw [q] at h
        rcases h.1 with z | z <;> exact absurd z (by decide)
theorem E_rule {σ : Mem} {x1 x2 x3 : Int32} (hI : INV σ) : EQ2 (fun σ => kG_rule σ x1 x2 x3) (fun σ => kM_rule σ x1 x2 x3) σ := by
  obtain ⟨N, d, P, R, hI⟩ := hI
  have hT := hI.2.2.2.2.2.2.1
  have h8 := hT.1
  by_cases hc : R = 8 ∨ ¬ RC x1 x2 x3
  · refine ⟨-1, σ, sI σ 30 0 0 0, ?_, (mrule_ok hT.2.2.1 h8).1 hc, N, d, P, R, hI.thr⟩
    show kG_rule σ x1 x2 x3 = _
    unfold kG_rule kT_addRule
    rw [hT.2.1, if_neg nn0]
    by_cases c : R = 8
    · rw [if_pos (show (8 : Int32) ≤ nI R from by rw [c]; exact nle (Nat.le_refl 8))]; rfl
    · rw [if_neg (show ¬ (8 : Int32) ≤ nI R from nge (show R < 8 by omega)), isRule_ok.2 (hc.resolve_left c)]; rfl
  · simp only [not_or, Classical.not_not] at hc
    obtain ⟨c8, hrc⟩ := hc
    have hR8 : R < 8 := by omega
    obtain ⟨σ1, hσ1⟩ : ∃ σ1, σ1 = sI (sR (sV (sI (sI (sI (sI σ 23 R 0 x1) 23 R 1 x2) 23 R 2 x3) 23 R 3 1) 23 R) 17 0 R (some R)) 14 0 2 (nI (R + 1)) := ⟨_, rfl⟩
    have hcl : kG_rule σ x1 x2 x3 = some (nI R, σ1) := by
      unfold kG_rule kT_addRule kU_init
      have hv := (hT.2.2.2.2.2 R (Nat.le_refl R)).1
      have y : mI (sR (sV (sI (sI (sI (sI σ 23 R 0 x1) 23 R 1 x2) 23 R 2 x3) 23 R 3 1) 23 R) 17 0 R (some R)) 14 0 2 = nI R := by simp [mIsI, mIsL, mIsR, mIsV, mIfI, mIsW, mLsI, mLsL, mLsR, mLsV, mLfI, mLsW, mRsI, mRsL, mRsR, mRsV, mRfI, mRsW, mVsI, mVsL, mVsR, mVsV, mVfI, mVsW]; exact hT.2.1
      simp only [hT.2.1, nn0 (show R < 2 ^ 31 by omega), if_false, show ¬ (8 : Int32) ≤ nI R from nge hR8, isRule_ok.1 hrc, Option.bind_some, show ¬ ((1 : Int32) = 0) by decide, ix_ (show R < 2 ^ 31 by omega), hv, if_true, inr_ hR8, y, nI_1, ← hσ1]
      rw [hσ1, mIsI, if_pos ⟨rfl, rfl, rfl⟩, nI_pred]
    have h32 : mI σ1 30 0 32 = nI R := by rw [hσ1]; simp [mIsI, mIsL, mIsR, mIsV, mIfI, mIsW, mLsI, mLsL, mLsR, mLsV, mLfI, mLsW, mRsI, mRsL, mRsR, mRsV, mRfI, mRsW, mVsI, mVsL, mVsR, mVsV, mVfI, mVsW]; exact hT.2.2.1
    refine ⟨nI R, σ1, _, hcl, (mrule_ok h32 h8).2 hR8 hrc, N, d, P, R + 1, ?_⟩
    refine INV'.tf hI (fun t i j g1 g2 => ?_) (fun t i g => ?_) ?_
    · have t14 : t ≠ 14 := fun z => g1 (by rw [z]; decide)
      have t17 : t ≠ 17 := fun z => g1 (by rw [z]; decide)
      have t23 : t ≠ 23 := fun z => g1 (by rw [z]; decide)
      have t58 : t ≠ 58 := fun z => g1 (by rw [z]; decide)
      have t59 : t ≠ 59 := fun z => g1 (by rw [z]; decide)
      have t60 : t ≠ 60 := fun z => g1 (by rw [z]; decide)
      have t61 : t ≠ 61 := fun z => g1 (by rw [z]; decide)
      simp only [List.mem_cons, List.not_mem_nil, or_false, not_or, Prod.mk.injEq, not_and] at g2
      rw [hσ1]
      refine ⟨?_, rfl, ?_⟩
      · rw [mIsI, if_neg (fun z => g2.1 z.1 z.2.2)]
        simp only [mIsI, mIsL, mIsR, mIsV, mIfI, mIsW, mLsI, mLsL, mLsR, mLsV, mLfI, mLsW, mRsI, mRsL, mRsR, mRsV, mRfI, mRsW, mVsI, mVsL, mVsR, mVsV, mVfI, mVsW, t14, t23, t58, t59, t60, t61, false_and, if_false]
        rw [if_neg (fun z => g2.2 z.1 z.2.2)]
      · simp only [mIsI, mIsL, mIsR, mIsV, mIfI, mIsW, mLsI, mLsL, mLsR, mLsV, mLfI, mLsW, mRsI, mRsL, mRsR, mRsV, mRfI, mRsW, mVsI, mVsL, mVsR, mVsV, mVfI, mVsW, t17, false_and, if_false]
    · rw [hσ1]
      simp only [mIsI, mIsL, mIsR, mIsV, mIfI, mIsW, mLsI, mLsL, mLsR, mLsV, mLfI, mLsW, mRsI, mRsL, mRsR, mRsV, mRfI, mRsW, mVsI, mVsL, mVsR, mVsV, mVfI, mVsW, g, false_and, if_false]
    · obtain ⟨t1, t2, t3, t4, t5, t6⟩ := hT
      refine ⟨by omega, by rw [hσ1]; simp [mIsI, mIsL, mIsR, mIsV, mIfI, mIsW, mLsI, mLsL, mLsR, mLsV, mLfI, mLsW, mRsI, mRsL, mRsR, mRsV, mRfI, mRsW, mVsI, mVsL, mVsR, mVsV, mVfI, mVsW], by simp [mIsI, mIsL, mIsR, mIsV, mIfI, mIsW, mLsI, mLsL, mLsR, mLsV, mLfI, mLsW, mRsI, mRsL, mRsR, mRsV, mRfI, mRsW, mVsI, mVsL, mVsR, mVsV, mVfI, mVsW], fun w hw n hn => ?_, fun j hj => ?_, fun j hj => ?_⟩
      · rw [hσ1]; simp [mIsI, mIsL, mIsR, mIsV, mIfI, mIsW, mLsI, mLsL, mLsR, mLsV, mLfI, mLsW, mRsI, mRsL, mRsR, mRsV, mRfI, mRsW, mVsI, mVsL, mVsR, mVsV, mVfI, mVsW]; exact t4 w hw n hn
      · by_cases e : j = R
        · subst e
          rw [hσ1]
          simp [mIsI, mIsL, mIsR, mIsV, mIfI, mIsW, mLsI, mLsL, mLsR, mLsV, mLfI, mLsW, mRsI, mRsL, mRsR, mRsV, mRfI, mRsW, mVsI, mVsL, mVsR, mVsV, mVfI, mVsW]
          have hb : (∃ r, r ≤ 60 ∧ x2 = nI r) := by
            rcases hrc with ⟨-, a, b⟩ | ⟨-, a, b, -⟩
            · obtain ⟨r, hr, rfl⟩ := nI_of2 (M := 58) (n := 58) (by decide) a (Int32.not_lt.mp b)
              exact ⟨r, by omega, rfl⟩
            · have a0 : ¬ x2 < 0 := fun z => a (Int32.lt_of_lt_of_le z (by decide))
              obtain ⟨r, hr, rfl⟩ := nI_of2 (M := 60) (n := 60) (by decide) a0 (Int32.not_lt.mp b)
              exact ⟨r, hr, rfl⟩
          refine ⟨?_, hb, fun h2 => ?_⟩
          · rcases hrc with ⟨a, -⟩ | ⟨a, -⟩
            · exact Or.inr (Or.inr a)
            · exact a.elim Or.inl (fun q => Or.inr (Or.inl q))
          · rcases hrc with ⟨a, -⟩ | ⟨-, -, -, a, b⟩
            · exact absurd a h2
            · rw [Int32.lt_iff_toInt_lt] at a b
              rw [show (-100 : Int32).toInt = -100 by decide] at a
              rw [show (300 : Int32).toInt = 300 by decide] at b
              omega
        · obtain ⟨r0, f0, f1, f2, f3, hs, hr, hh, hp⟩ := t5 j (by omega)
          rw [hσ1]
          simp [mIsI, mIsL, mIsR, mIsV, mIfI, mIsW, mLsI, mLsL, mLsR, mLsV, mLfI, mLsW, mRsI, mRsL, mRsR, mRsV, mRfI, mRsW, mVsI, mVsL, mVsR, mVsV, mVfI, mVsW, e]
          exact ⟨r0, f0, f1, f2, f3, hs, hr, hh, hp⟩
      · obtain ⟨q1, q2⟩ := t6 j (by omega)
        rw [hσ1]
        simp [mIsI, mIsL, mIsR, mIsV, mIfI, mIsW, mLsI, mLsL, mLsR, mLsV, mLfI, mLsW, mRsI, mRsL, mRsR, mRsV, mRfI, mRsW, mVsI, mVsL, mVsR, mVsV, mVfI, mVsW, show ¬ j = R by omega]
        exact ⟨q1, q2⟩
