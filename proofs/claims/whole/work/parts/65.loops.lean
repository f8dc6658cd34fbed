/-! the loops of a night's end -/
theorem st_loop {σ : Mem} {N T : Nat} {I K : Nat → Nat} {l : List Nat} {m : List (Nat × Nat)} {f : Int32 × Mem → Option ((Int32 × Mem) ⊕ Mem)} {F : Nat → Int32 → Int32} (hN : N ≤ 40) (hT : ∀ q, T ∈ l ∨ (T, K q) ∈ m) (hinj : ∀ q q', I q = I q' → K q = K q' → q = q')
    (hs : ∀ i τ, i < N → Fx l m σ τ → mI τ T (I i) (K i) = mI σ T (I i) (K i) → (f (nI i, τ) = some (.inl (nI i + 1, τ)) ∧ F i (mI σ T (I i) (K i)) = mI σ T (I i) (K i)) ∨ f (nI i, τ) = some (.inl (nI i + 1, sI τ T (I i) (K i) (F i (mI σ T (I i) (K i))))))
    (he : ∀ τ, Fx l m σ τ → f (nI N, τ) = some (.inr τ)) : ∃ σ', loopF FU f (0, σ) = some σ' ∧ Fx l m σ σ' ∧ ∀ q, mI σ' T (I q) (K q) = if q < N then F q (mI σ T (I q) (K q)) else mI σ T (I q) (K q) := by
  refine lp_inv (f := f) (fun i s => ∃ τ, s = (nI i, τ) ∧ Fx l m σ τ ∧ ∀ q, mI τ T (I q) (K q) = if q < i then F q (mI σ T (I q) (K q)) else mI σ T (I q) (K q)) _ N (by omega) (fun i s hi hs' => ?_) (fun s hs' => ?_) ⟨σ, rfl, Fx.rf, fun q => by rw [if_neg (by omega)]⟩
  · obtain ⟨τ, rfl, a1, a2⟩ := hs'
    refine Or.inl ?_
    have h0 : mI τ T (I i) (K i) = mI σ T (I i) (K i) := by rw [a2 i, if_neg (by omega)]
    rcases hs i τ hi a1 h0 with ⟨e1, e2⟩ | e1
    · rw [e1]
      refine ⟨_, rfl, τ, by rw [nI_1], a1, fun q => ?_⟩
      rw [a2 q]
      by_cases c : q = i
      · rw [c, if_neg (by omega), if_pos (by omega), e2]
      · by_cases c2 : q < i
        · rw [if_pos c2, if_pos (by omega)]
        · rw [if_neg c2, if_neg (by omega)]
    · rw [e1]
      refine ⟨_, rfl, _, by rw [nI_1], a1.sI (ht := hT i), fun q => ?_⟩
      rw [mIsI]
      by_cases c : q = i
      · rw [c, if_pos ⟨rfl, rfl, rfl⟩, if_pos (by omega)]
      · rw [if_neg (fun z => c (hinj q i z.2.1 z.2.2)), a2 q]
        by_cases c2 : q < i
        · rw [if_pos c2, if_pos (by omega)]
        · rw [if_neg c2, if_neg (by omega)]
  · obtain ⟨τ, rfl, a1, a2⟩ := hs'
    exact ⟨τ, he τ a1, a1, a2⟩
def fMiss (v a b x : Int32) : Int32 := if v = 0 ∨ v = 1 then (if x < a then v else if b ≤ x then v else 6) else v
def fWalk (v a b x s : Int32) : Bool := decide (v = 2) && (!decide (x < a) && (!decide (b ≤ x) && decide (s = -1)))
def fTurn (v b u x : Int32) : Int32 := if v = 2 then (if b = x then 3 else v) else if v = 0 then (if x ≤ u then v else 5) else v
theorem at_in2 {σ : Mem} {N q : Nat} (hN : N ≤ 40) (h51 : mI σ 5 0 1 = nI N) (h6 : mR σ 6 0 q = some q) (hq : q < N) : kB_at σ (nI q) = some (some q, σ) := by
  unfold kB_at
  rw [if_neg nn0, h51, if_neg (nge hq), if_neg (show ¬ (40 : Int32) ≤ nI q from nge (show q < 40 by omega)), if_pos (inr_ (by omega)), ix_, h6]
  rfl
section CLOOP
variable {σ : Mem} {N : Nat} {x : Int32}
theorem missNight_ok (hN : N ≤ 40) (h51 : mI σ 5 0 1 = nI N) (h6 : ∀ q, q < N → mR σ 6 0 q = some q) : ∃ σ', kB_missNight σ x = some ((), σ') ∧ Fx [] [(21, 3)] σ σ' ∧ ∀ q, mI σ' 21 q 3 = if q < N then fMiss (mI σ 21 q 3) (mI σ 21 q 4) (mI σ 21 q 5) x else mI σ 21 q 3 := by
  obtain ⟨σ', a, b⟩ := st_loop (σ := σ) (N := N) (T := 21) (I := fun q => q) (K := fun _ => 3) (l := []) (m := [(21, 3)]) (f := kB_missNight_s2 x) (F := fun q v => fMiss v (mI σ 21 q 4) (mI σ 21 q 5) x) hN (fun q => Or.inr (by simp)) (fun q q' h _ => h) (fun i τ hi hF h0 => by
    have e51 : mI τ 5 0 1 = nI N := by rw [hF.I 5 0 1]; exact h51
    have e4 : mI τ 21 i 4 = mI σ 21 i 4 := hF.I 21 i 4
    have e5 : mI τ 21 i 5 = mI σ 21 i 5 := hF.I 21 i 5
    simp only [kB_missNight_s2, e51, nge hi, if_false, at_in2 hN e51 (by rw [hF.R 6 0 i]; exact h6 i hi) hi, Option.bind_some, Option.elim_some, kQ_isAhead, kQ_covers, h0, e4, e5]
    by_cases c0 : mI σ 21 i 3 = 0
    · simp only [c0, if_true, Option.bind_some, show ¬ ((1 : Int32) = 0) by decide, if_false, fMiss, true_or]
      by_cases c1 : x < mI σ 21 i 4
      · simp only [e4, e5, c1, if_true, Option.bind_some]; simp
      · by_cases c2 : mI σ 21 i 5 ≤ x
        · simp only [e4, e5, c1, c2, if_true, if_false, Option.bind_some]; simp
        · simp only [e4, e5, c1, c2, if_false, Option.bind_some, show ¬ ((1 : Int32) = 0) by decide]; simp
    · by_cases c0' : mI σ 21 i 3 = 1
      · simp only [c0', if_true, Option.bind_some, show ¬ ((1 : Int32) = 0) by decide, if_false, fMiss, or_true]
        by_cases c1 : x < mI σ 21 i 4
        · simp only [e4, e5, c1, if_true, Option.bind_some]; simp
        · by_cases c2 : mI σ 21 i 5 ≤ x
          · simp only [e4, e5, c1, c2, if_true, if_false, Option.bind_some]; simp
          · simp only [e4, e5, c1, c2, if_false, Option.bind_some, show ¬ ((1 : Int32) = 0) by decide]; simp
      · simp only [c0, c0', if_false, Option.bind_some, if_true, fMiss, or_self]
        simp) (fun τ hF => by
    have e51 : mI τ 5 0 1 = nI N := by rw [hF.I 5 0 1]; exact h51
    simp only [kB_missNight_s2, e51, nle (Nat.le_refl N), if_true])
  unfold kB_missNight
  rw [a]
  exact ⟨σ', rfl, b.1, fun q => b.2 q⟩
theorem turnTo_ok (hN : N ≤ 40) (h51 : mI σ 5 0 1 = nI N) (h6 : ∀ q, q < N → mR σ 6 0 q = some q) : ∃ σ', kB_turnTo σ x = some ((), σ') ∧ Fx [] [(21, 3)] σ σ' ∧ ∀ q, mI σ' 21 q 3 = if q < N then fTurn (mI σ 21 q 3) (mI σ 21 q 5) (mI σ 21 q 2) x else mI σ 21 q 3 := by
  obtain ⟨σ', a, b⟩ := st_loop (σ := σ) (N := N) (T := 21) (I := fun q => q) (K := fun _ => 3) (l := []) (m := [(21, 3)]) (f := kB_turnTo_s2 x) (F := fun q v => fTurn v (mI σ 21 q 5) (mI σ 21 q 2) x) hN (fun q => Or.inr (by simp)) (fun q q' h _ => h) (fun i τ hi hF h0 => by
    have e51 : mI τ 5 0 1 = nI N := by rw [hF.I 5 0 1]; exact h51
    have e2 : mI τ 21 i 2 = mI σ 21 i 2 := hF.I 21 i 2
    have e5 : mI τ 21 i 5 = mI σ 21 i 5 := hF.I 21 i 5
    simp only [kB_turnTo_s2, kB_turnTo_j47, e51, nge hi, if_false, at_in2 hN e51 (by rw [hF.R 6 0 i]; exact h6 i hi) hi, Option.bind_some, Option.elim_some, h0, e2, e5]
    by_cases c0 : mI σ 21 i 3 = 2
    · simp only [c0, if_true, fTurn]
      by_cases c1 : mI σ 21 i 5 = x
      · simp only [c1, if_true]; simp
      · simp only [c1, if_false, show ¬ (2 : Int32) = 0 by decide]; simp
    · by_cases c1 : mI σ 21 i 3 = 0
      · simp only [c1, if_true, show ¬ (0 : Int32) = 2 by decide, if_false, fTurn]
        by_cases c2 : x ≤ mI σ 21 i 2
        · simp only [c2, if_true]; simp
        · simp only [c2, if_false]; simp
      · simp only [c0, c1, if_false, fTurn]; simp) (fun τ hF => by
    have e51 : mI τ 5 0 1 = nI N := by rw [hF.I 5 0 1]; exact h51
    simp only [kB_turnTo_s2, e51, nle (Nat.le_refl N), if_true])
  unfold kB_turnTo
  rw [a]
  exact ⟨σ', rfl, b.1, fun q => b.2 q⟩
theorem walk_ok {n : Nat} (hn : n < 60) (hN : N ≤ 40) (h51 : mI σ 5 0 1 = nI N) (h6 : ∀ q, q < N → mR σ 6 0 q = some q) : ∃ σ', kB_walkFrom σ (nI n) = some (nI (fb_ct (fun q => fWalk (mI σ 21 q 3) (mI σ 21 q 4) (mI σ 21 q 5) (nI n) (mI σ 22 q n)) N), σ') ∧ Fx [] [(21, 3)] σ σ' ∧ ∀ q, mI σ' 21 q 3 = if q < N ∧ fWalk (mI σ 21 q 3) (mI σ 21 q 4) (mI σ 21 q 5) (nI n) (mI σ 22 q n) = true then 7 else mI σ 21 q 3 := by
  obtain ⟨w, hw⟩ : ∃ w : Nat → Bool, w = fun q => fWalk (mI σ 21 q 3) (mI σ 21 q 4) (mI σ 21 q 5) (nI n) (mI σ 22 q n) := ⟨_, rfl⟩
  have hw' : ∀ q, fWalk (mI σ 21 q 3) (mI σ 21 q 4) (mI σ 21 q 5) (nI n) (mI σ 22 q n) = w q := fun q => by rw [hw]
  rw [← hw]
  simp only [hw']
  obtain ⟨y, a, b1, b2, b3⟩ := lp_inv (f := kB_walkFrom_s4 (nI n)) (fun i s => ∃ τ, s = (nI (fb_ct w i), nI i, τ) ∧ Fx [] [(21, 3)] σ τ ∧ ∀ q, mI τ 21 q 3 = if q < i ∧ w q = true then 7 else mI σ 21 q 3)
    (fun y => y.1 = nI (fb_ct w N) ∧ Fx [] [(21, 3)] σ y.2 ∧ ∀ q, mI y.2 21 q 3 = if q < N ∧ w q = true then 7 else mI σ 21 q 3) N (by omega) (fun i s hi hs => by
    obtain ⟨τ, rfl, a1, a2⟩ := hs
    refine Or.inl ?_
    have e51 : mI τ 5 0 1 = nI N := by rw [a1.I 5 0 1]; exact h51
    have e3 : mI τ 21 i 3 = mI σ 21 i 3 := by rw [a2 i, if_neg (by omega)]
    have e4 : mI τ 21 i 4 = mI σ 21 i 4 := a1.I 21 i 4
    have e5 : mI τ 21 i 5 = mI σ 21 i 5 := a1.I 21 i 5
    have e22 : mI τ 22 i n = mI σ 22 i n := a1.I 22 i n
    have hno : w i = false → ∃ s', some (Sum.inl (nI (fb_ct w i), nI i + 1, τ)) = some (Sum.inl (β := Int32 × Mem) s') ∧ ∃ τ, s' = (nI (fb_ct w (i + 1)), nI (i + 1), τ) ∧ Fx [] [(21, 3)] σ τ ∧ ∀ q, mI τ 21 q 3 = if q < i + 1 ∧ w q = true then 7 else mI σ 21 q 3 := fun hf => by
      refine ⟨_, rfl, τ, by rw [fb_ct_succ, hf, nI_1]; rfl, a1, fun q => ?_⟩
      rw [a2 q]
      by_cases c : q = i
      · rw [c, if_neg (by omega), if_neg (by rw [hf]; simp)]
      · by_cases c2 : q < i ∧ w q = true
        · rw [if_pos c2, if_pos ⟨by omega, c2.2⟩]
        · rw [if_neg c2, if_neg (fun z => c2 ⟨by omega, z.2⟩)]
    simp only [kB_walkFrom_s4, e51, nge hi, if_false, at_in2 hN e51 (by rw [a1.R 6 0 i]; exact h6 i hi) hi, Option.bind_some, Option.elim_some, kQ_covers, e3, e4, e5, spotIn_in hn]
    by_cases c0 : mI σ 21 i 3 = 2
    · simp only [c0, if_true]
      by_cases c1 : nI n < mI σ 21 i 4
      · simp only [c1, if_true, Option.bind_some]
        exact hno (by rw [← hw']; simp [fWalk, c1])
      · by_cases c2 : mI σ 21 i 5 ≤ nI n
        · simp only [c1, c2, if_true, if_false, Option.bind_some]
          exact hno (by rw [← hw']; simp [fWalk, c2])
        · simp only [c1, c2, if_false, Option.bind_some, show ¬ ((1 : Int32) = 0) by decide, spotIn_in hn, e22]
          by_cases c3 : mI σ 22 i n = -1
          · simp only [c3, if_true]
            have ht : w i = true := by rw [← hw']; simp [fWalk, c0, c1, c2, c3]
            refine ⟨_, rfl, _, by rw [fb_ct_succ, ht, nI_1, nI_1]; rfl, a1.sI, fun q => ?_⟩
            rw [mIsI]
            by_cases c : q = i
            · rw [if_pos ⟨rfl, c, rfl⟩, if_pos ⟨by omega, by rw [c]; exact ht⟩]
            · rw [if_neg (fun z => c z.2.1), a2 q]
              by_cases c2 : q < i ∧ w q = true
              · rw [if_pos c2, if_pos ⟨by omega, c2.2⟩]
              · rw [if_neg c2, if_neg (fun z => c2 ⟨by omega, z.2⟩)]
          · simp only [c3, if_false]
            exact hno (by rw [← hw']; simp [fWalk, c3])
    · simp only [c0, if_false]
      exact hno (by rw [← hw']; simp [fWalk, c0])) (fun s hs => by
    obtain ⟨τ, rfl, a1, a2⟩ := hs
    have e51 : mI τ 5 0 1 = nI N := by rw [a1.I 5 0 1]; exact h51
    refine ⟨(nI (fb_ct w N), τ), ?_, rfl, a1, a2⟩
    simp only [kB_walkFrom_s4, e51, nle (Nat.le_refl N), if_true]) (s := (0, 0, σ)) ⟨σ, rfl, Fx.rf, fun q => by rw [if_neg (by omega)]⟩
  unfold kB_walkFrom
  rw [a]
  obtain ⟨y1, y2⟩ := y
  exact ⟨y2, by rw [← b1]; rfl, b2, b3⟩
end CLOOP
