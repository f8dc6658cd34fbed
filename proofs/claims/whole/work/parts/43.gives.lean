/-! the reference's rows of needs, of who is kept -/
def DU (σ : Mem) (nd : ND) : Prop := ∀ w, w < 5 → mI σ 53 0 w = nI (nd w)
theorem DU.fx {l : List Nat} {m : List (Nat × Nat)} {σ σ' : Mem} {nd : ND} (h : Fx l m σ σ') (hn : nohit [53] l m = true) (hD : DU σ nd) : DU σ' nd := fun w hw => by rw [h.hI hn 53 0 w]; exact hD w hw
theorem DU.set {σ : Mem} {nd : ND} {w v : Nat} (hD : DU σ nd) : DU (sI σ 53 0 w (nI v)) (nds nd w v) := fun w' hw' => by
  rw [mIsI]
  unfold nds
  by_cases e : w' = w
  · rw [if_pos ⟨rfl, rfl, e⟩, if_pos e]
  · rw [if_neg (fun z => e z.2.2), if_neg e]; exact hD w' hw'
def MK (σ : Mem) (N : Nat) (kp : Nat → Bool) : Prop := ∀ q, q < N → mI σ 55 0 q = if kp q = true then 1 else 0
theorem MK.fx {l : List Nat} {m : List (Nat × Nat)} {σ σ' : Mem} {N : Nat} {kp : Nat → Bool} (h : Fx l m σ σ') (hn : nohit [55] l m = true) (hD : MK σ N kp) : MK σ' N kp := fun w hw => by rw [h.hI hn 55 0 w]; exact hD w hw
theorem mkeep_ok {σ : Mem} {H : HV} {N n which : Nat} {x : ND × (Nat → Bool)} (hI : HI σ) (hB : BI σ N) (hH : hvN σ n = H) (hM : MR σ n tk0) (hf : fit H tk0 x.1 = true) (hD : DU σ x.1) (hK : MK σ N x.2) (hw3 : which < 3) :
    ∃ σ', kM_keep σ (nI n) (nI which) = some ((), σ') ∧ Fx [53, 54, 55] [] σ σ' ∧ fit H tk0 ((WLi σ n N).foldl (keepStep H which) x).1 = true ∧ DU σ' ((WLi σ n N).foldl (keepStep H which) x).1 ∧ MK σ' N ((WLi σ n N).foldl (keepStep H which) x).2 := by
  have hN := hB.1
  unfold kM_keep
  obtain ⟨τ, l1, l2⟩ := lp_inv (f := kM_keep_s2 (nI n) (nI which)) (fun i s => ∃ τ, s = (nI i, τ) ∧ Fx [53, 54, 55] [] σ τ ∧ fit H tk0 ((WLi σ n i).foldl (keepStep H which) x).1 = true ∧ DU τ ((WLi σ n i).foldl (keepStep H which) x).1 ∧ MK τ N ((WLi σ n i).foldl (keepStep H which) x).2)
    (fun τ => Fx [53, 54, 55] [] σ τ ∧ fit H tk0 ((WLi σ n N).foldl (keepStep H which) x).1 = true ∧ DU τ ((WLi σ n N).foldl (keepStep H which) x).1 ∧ MK τ N ((WLi σ n N).foldl (keepStep H which) x).2) N (by omega) (fun i s hi hs => by
    obtain ⟨τ, rfl, a1, a2, a3, a4⟩ := hs
    have hIt := HI.fx a1 rfl hI
    have hBt := BI.fx a1 rfl rfl hB
    have hMt := MR.fx a1 rfl rfl hM
    refine Or.inl ?_
    obtain ⟨-, -, ⟨s, hs, es⟩, -⟩ := hBt.2.2.2.1 i hi
    have hwq := wq_nI hB hi
    have e41 : mI τ 41 0 i = nI (wq σ i) := by rw [a1.I 41 0 i]; exact hwq.1
    have hskip : ¬ wnt σ i n = true → WLi σ n (i + 1) = WLi σ n i := fun h => by
      show WLi σ n i ++ _ = _
      rw [if_neg h, List.append_nil]
    obtain ⟨y, hy⟩ : ∃ y, y = (WLi σ n i).foldl (keepStep H which) x := ⟨_, rfl⟩
    rw [← hy] at a2 a3 a4
    have hadd : wnt σ i n = true → (WLi σ n (i + 1)).foldl (keepStep H which) x = keepStep H which y (pe σ i) := fun h => by
      show (WLi σ n i ++ _).foldl (keepStep H which) x = _
      rw [if_pos h, List.foldl_append, ← hy]
      rfl
    have est : (pe σ i).2.2 = s := by
      show ix (mI σ 40 0 i) = s
      rw [← a1.I 40 0 i, es, ix_]
    have hsame : (wnt σ i n = true → s ≠ which) → (WLi σ n (i + 1)).foldl (keepStep H which) x = y := fun h => by
      by_cases hw : wnt σ i n = true
      · rw [hadd hw]
        unfold keepStep
        rw [if_neg (by rw [est]; exact h hw)]
      · rw [hskip hw, ← hy]
    simp only [kM_keep_s2, hBt.2.2.1, nge hi (by omega), if_false, inr_ (show i < 40 by omega), if_true, ix_ (show i < 2 ^ 31 by omega), es]
    by_cases c1 : s = which
    · rw [if_pos (by rw [c1]), mWants_in (show i < 40 by omega), wnt_fx a1 rfl]
      simp only [Option.bind_some]
      by_cases c2 : wnt σ i n = true
      · rw [if_pos c2, if_neg (by decide)]
        have hbd := fit_bd (fun k => FK_le) FS_le a2
        have hF1 : Fx [53, 54, 55] [] σ (sI τ 53 0 (wq σ i) (nI (y.1 (wq σ i) + 1))) := a1.sI
        obtain ⟨τ1, t1, t2⟩ := canAll_ok (n := n) (tk := tk0) (nd := nds y.1 (wq σ i) (y.1 (wq σ i) + 1)) (HI.fx hF1 rfl hI) (MR.fx hF1 rfl rfl hM) a3.set (fun w hw => by
          unfold nds
          have := hbd w hw
          have := hbd (wq σ i) hwq.2
          split <;> omega)
        rw [hvN_fx hF1 rfl, hH] at t1
        simp only [e41, inr_ hwq.2, if_true, ix_ (show wq σ i < 2 ^ 31 by omega), a3 _ hwq.2, nI_1, t1, Option.bind_some]
        have hF2 := hF1.tr (t2.wk (l' := [53, 54, 55]) (m' := []) rfl rfl)
        rw [hadd c2]
        unfold keepStep
        rw [if_pos (show (pe σ i).2.2 = which by rw [est, c1])]
        rw [show (pe σ i).2.1 = wq σ i from rfl, show (pe σ i).1 = i from rfl]
        have hD2 : DU τ1 (nds y.1 (wq σ i) (y.1 (wq σ i) + 1)) := DU.fx t2 rfl a3.set
        have hK2 : MK τ1 N y.2 := fun q hq => by
          rw [t2.I 55 0 q, mIsI, if_neg (by omega)]
          exact a4 q hq
        by_cases c3 : fit H tk0 (nds y.1 (wq σ i) (y.1 (wq σ i) + 1)) = true
        · have m1 : mI (sI τ1 55 0 i 1) 55 0 i = 1 := by rw [mIsI, if_pos ⟨rfl, rfl, rfl⟩]
          simp only [c3, if_true, zn1, m1, show ¬ ((1 : Int32) = 0) by decide, if_false]
          refine ⟨_, rfl, _, rfl, hF2.sI, trivial, DU.fx (Fx.rf.sI (l := [55]) (m := [])) rfl hD2, fun q hq => ?_⟩
          rw [mIsI]
          by_cases e : q = i
          · rw [if_pos ⟨rfl, rfl, e⟩]; simp [e]
          · rw [if_neg (fun z => e z.2.2)]
            simp only [e, if_false]
            exact hK2 q hq
        · have m1 : mI (sI τ1 55 0 i 0) 55 0 i = 0 := by rw [mIsI, if_pos ⟨rfl, rfl, rfl⟩]
          have m2 : mI (sI τ1 55 0 i 0) 41 0 i = nI (wq σ i) := by rw [mIsI, if_neg (by omega), hF2.I 41 0 i, hwq.1]
          have m3 : mI (sI τ1 55 0 i 0) 53 0 (wq σ i) = nI (y.1 (wq σ i) + 1) := by
            rw [mIsI, if_neg (by omega), hD2 _ hwq.2]
            unfold nds
            rw [if_pos rfl]
          simp only [c3, Bool.false_eq_true, if_false, zn0, m1, if_true, m2, inr_ hwq.2, ix_ (show wq σ i < 2 ^ 31 by omega), m3, nI_pred]
          refine ⟨_, rfl, _, rfl, (hF2.sI).sI, a2, ?_, fun q hq => ?_⟩
          · have := (DU.fx (Fx.rf.sI (l := [55]) (m := []) (t := 55) (i := 0) (k := i) (v := 0)) rfl hD2).set (w := wq σ i) (v := y.1 (wq σ i))
            rw [show nds (nds y.1 (wq σ i) (y.1 (wq σ i) + 1)) (wq σ i) (y.1 (wq σ i)) = y.1 from funext fun w => by
              unfold nds
              by_cases e : w = wq σ i
              · simp [e]
              · simp [e]] at this
            exact this
          · rw [mIsI, if_neg (by omega), mIsI]
            by_cases e : q = i
            · rw [if_pos ⟨rfl, rfl, e⟩]; simp [e]
            · rw [if_neg (fun z => e z.2.2)]
              simp only [e, if_false]
              exact hK2 q hq
      · rw [if_neg c2, if_pos rfl, hsame (fun h => absurd h c2)]
        exact ⟨_, rfl, τ, by rw [nI_1], a1, a2, a3, a4⟩
    · rw [if_neg (fun z => c1 ((nI_eq (by omega) (by omega)).mp z)), hsame (fun _ => c1)]
      exact ⟨_, rfl, τ, by rw [nI_1], a1, a2, a3, a4⟩) (fun s hs => by
    obtain ⟨τ, rfl, a1, a2⟩ := hs
    have hBt := BI.fx a1 rfl rfl hB
    exact ⟨τ, by simp only [kM_keep_s2, hBt.2.2.1, nle (Nat.le_refl N) (by omega), if_true], a1, a2⟩) (s := (0, σ)) ⟨σ, rfl, Fx.rf, hf, hD, hK⟩
  rw [l1]
  exact ⟨τ, rfl, l2⟩
theorem orI : ∀ m, m < 64 → ∀ b, b < 6 → (nI m ||| ((1 : Int32) <<< (nI b &&& 31))) = nI (m ||| 2 ^ b) ∧ m ||| 2 ^ b < 64 := by decide +kernel
theorem andI : ∀ m, m < 64 → ∀ b, b < 6 → m.testBit b = false → (nI (m ||| 2 ^ b) &&& (((1 : Int32) <<< (nI b &&& 31)) ^^^ (-1))) = nI m := by decide +kernel
/-- whether a spot is given hangs on just this -/
theorem gives_ev {σ : Mem} {N n q s : Nat} {tk : TK} (hI : HI σ) (hB : BI σ N) (hM : MR σ n tk) (hq : q < N) (hs : s < 512) (hs4 : s % 4 ≤ 1) :
    kM_gives σ (nI q) (nI s) = if suS (hvN σ n) (wq σ q) s = true ∧ frS (hvN σ n) tk s = true then kM_gives_j216 σ (nI (s / 32)) (nI (s % 32 / 4)) (if s % 4 = 1 then 1 else 0) (nI (wq σ q)) (mI σ 34 0 (s / 32)) else some (0, σ) := by
  have hN := hB.1
  have hp : s / 32 < 16 := by omega
  have d1 : nI s / 32 = nI (s / 32) := pk_div (d := 32) (by omega) (by omega) (by decide)
  have d2 : (nI s - nI s / 32 * 32) / 4 = nI (s % 32 / 4) := by
    rw [show (32 : Int32) = nI 32 from rfl, pk_rem (by omega) (by omega) (by decide)]
    exact pk_div (d := 4) (by omega) (by omega) (by decide)
  have d3 : nI s - nI s / 4 * 4 = nI (s % 4) := pk_rem (d := 4) (by omega) (by omega) (by decide)
  obtain ⟨hw, hw5⟩ := wq_nI hB hq
  have hgo : kM_gives σ (nI q) (nI s) = kM_gives_j25 σ (nI q) (nI (s / 32)) (nI (s % 32 / 4)) (if s % 4 = 1 then 1 else 0) := by
    unfold kM_gives
    rw [d3, d2, d1]
    by_cases e : s % 4 = 1
    · rw [e, if_pos (show nI 1 = 1 from rfl), if_pos rfl]
    · rw [if_neg e, show s % 4 = 0 by omega, if_neg (by decide)]
  rw [hgo]
  obtain ⟨p, hpe⟩ : ∃ p, p = s / 32 := ⟨_, rfl⟩
  obtain ⟨b, hbe⟩ : ∃ b, b = s % 32 / 4 := ⟨_, rfl⟩
  obtain ⟨w, hwe⟩ : ∃ w, w = wq σ q := ⟨_, rfl⟩
  have hno : ∀ (x : Option (Int32 × Mem)) (y : Option (Int32 × Mem)), x = some (0, σ) → ¬ (suS (hvN σ n) w s = true ∧ frS (hvN σ n) tk s = true) → x = if suS (hvN σ n) w s = true ∧ frS (hvN σ n) tk s = true then y else some (0, σ) := fun x y h1 h2 => by rw [if_neg h2]; exact h1
  rw [← hpe, ← hbe, ← hwe]
  rw [← hpe] at hp
  rw [← hwe] at hw hw5
  unfold kM_gives_j25
  simp only [inr_ (show q < 40 by omega), inr_ hp, if_true, mRoom_in hp, ix_ (show q < 2 ^ 31 by omega), ix_ (show p < 2 ^ 31 by omega), Option.bind_some, hw, hM.1]
  by_cases hr : isRm σ p = true
  · rw [if_pos hr, if_neg (by decide), mOpen_in hp hr]
    simp only [Option.bind_some]
    by_cases ho : opn σ p n = true
    · rw [if_pos ho, if_neg (by decide)]
      have hkd := kd_N (n := n) ho
      obtain ⟨m, m1, m2, m3, m4⟩ := hM.2 p hp
      have hsu : suS (hvN σ n) w s = true ↔ (s % 4 = 1 ↔ w = 4) ∧ ((hvN σ n).2.1 p = 3 ↔ w = 0) ∧ b < (hvN σ n).2.2.1 p ∧ (w = 2 → (hvN σ n).2.1 p ≠ 0) ∧ (w = 3 → (hvN σ n).2.1 p = 2) ∧ (w = 4 → (hvN σ n).2.1 p = 1 ∧ (hvN σ n).2.2.2 p = p + 1) := by
        rw [suS_iff, ← hpe, ← hbe]
        exact ⟨fun z => z.2.2.2, fun z => ⟨ho, hs, hs4, z⟩⟩
      have hfr : frS (hvN σ n) tk s = true ↔ (b < (hvN σ n).2.2.1 p ∧ tk p b = false) ∧ (s % 4 ≠ 1 ∨ fu (hvN σ n) tk (p + 1) 0 = true) := by
        unfold frS
        rw [← hpe, ← hbe]
        simp only [Bool.and_eq_true, Bool.or_eq_true, decide_eq_true_eq]
        rw [fu_iff]
        exact ⟨fun z => ⟨z.1.2, z.2⟩, fun z => ⟨⟨ho, z.1⟩, z.2⟩⟩
      have hj76 : (if nI w = 4 then kM_gives_j76 σ (nI p) (nI b) (if s % 4 = 1 then 1 else 0) (nI w) (mI σ 31 0 p) 1 (if s % 4 = 1 then 1 else 0) else kM_gives_j76 σ (nI p) (nI b) (if s % 4 = 1 then 1 else 0) (nI w) (mI σ 31 0 p) 0 (if s % 4 = 1 then 1 else 0)) = if (s % 4 = 1 ↔ w = 4) then (if mI σ 31 0 p = 3 then kM_gives_j90 σ (nI p) (nI b) (if s % 4 = 1 then 1 else 0) (nI w) (mI σ 31 0 p) 1 else kM_gives_j90 σ (nI p) (nI b) (if s % 4 = 1 then 1 else 0) (nI w) (mI σ 31 0 p) 0) else some (0, σ) := by
        have e4 : nI w = 4 ↔ w = 4 := nI_eq (b := 4) (by omega) (by decide)
        unfold kM_gives_j76
        by_cases c1 : w = 4
        · by_cases c2 : s % 4 = 1
          · simp [c1, c2, show nI 4 = 4 from rfl]
          · simp [c1, c2, show nI 4 = 4 from rfl]
        · have c1' : ¬ nI w = 4 := fun z => c1 (e4.mp z)
          by_cases c2 : s % 4 = 1
          · simp [c1, c1', c2]
          · simp [c1, c1', c2]
      rw [hj76]
      by_cases C1 : (s % 4 = 1 ↔ w = 4)
      · rw [if_pos C1]
        have e0 : nI w = 0 ↔ w = 0 := nI_eq (b := 0) (by omega) (by decide)
        have e2 : nI w = 2 ↔ w = 2 := nI_eq (b := 2) (by omega) (by decide)
        have e3 : nI w = 3 ↔ w = 3 := nI_eq (b := 3) (by omega) (by decide)
        by_cases h3 : mI σ 31 0 p = 3
        · have hk3 : (hvN σ n).2.1 p = 3 := by rw [hkd, h3]; rfl
          rw [if_pos h3, h3]
          unfold kM_gives_j90
          by_cases c0 : w = 0
          · rw [if_pos (e0.mpr c0)]
            unfold kM_gives_j100
            rw [if_pos rfl, if_pos rfl, if_pos (inr_ hp), ix_ (show p < 2 ^ 31 by omega)]
            obtain ⟨u, u1, u2, -, u3, -, u4⟩ := units_in hI hr
            rw [← (hvN_S ho).2.1] at u3
            rw [u4 h3]
            by_cases cb : b < u
            · rw [if_neg (nge cb), if_pos (inr_ hp), m2, bitI m m1 b (by omega), m3 b]
              by_cases ct : tk p b = true
              · refine hno _ _ ?_ ?_
                · rw [if_pos ct, if_pos rfl]
                · intro z
                  have := (hfr.mp z.2).1.2
                  rw [ct] at this
                  cases this
              · have ct' : tk p b = false := by simpa using ct
                have hyes : suS (hvN σ n) w s = true ∧ frS (hvN σ n) tk s = true := ⟨hsu.mpr ⟨C1, by omega, by omega, by omega, by omega, by omega⟩, hfr.mpr ⟨⟨by omega, ct'⟩, Or.inl (by omega)⟩⟩
                rw [if_neg ct, if_neg (by decide), if_pos hyes]
                unfold kM_gives_j155
                rw [if_neg (fun z => by have := e2.mp z; omega)]
                unfold kM_gives_j166
                rw [if_neg (fun z => by have := e3.mp z; omega)]
                unfold kM_gives_j180
                rw [if_pos (inr_ hp), if_neg (show ¬ s % 4 = 1 by omega), if_pos rfl, ix_ (show p < 2 ^ 31 by omega)]
            · refine hno _ _ ?_ ?_
              · rw [if_pos (nle (by omega))]
              · intro z
                have := (hsu.mp z.1).2.2.1
                omega
          · refine hno _ _ ?_ ?_
            · rw [if_neg (fun z => c0 (e0.mp z))]
              unfold kM_gives_j100
              rw [if_neg (by decide)]
            · intro z
              have := (hsu.mp z.1).2.1
              omega
        · have hk3 : (hvN σ n).2.1 p ≠ 3 := by
            rw [hkd]
            intro z
            rcases kd_of hI hr with k | k | k | k
            · rw [k] at z; exact absurd z (by decide)
            · rw [k] at z; exact absurd z (by decide)
            · rw [k] at z; exact absurd z (by decide)
            · exact h3 k
          have hun : (hvN σ n).2.2.1 p = 1 := ((WHN hI).2 p hp ho).2.1 hk3
          have hm2 := m4 h3
          have hkv : ∀ v : Nat, v < 4 → (mI σ 31 0 p = nI v ↔ (hvN σ n).2.1 p = v) := by
            intro v hv
            obtain ⟨k, hk, ek⟩ := kd_nat hI hr
            rw [hkd, ek, ix_, nI_eq (by omega) (by omega)]
          rw [if_neg h3]
          unfold kM_gives_j90
          by_cases c0 : w = 0
          · refine hno _ _ ?_ ?_
            · rw [if_pos (e0.mpr c0)]
              unfold kM_gives_j100
              rw [if_neg (by decide)]
            · intro z
              exact hk3 ((hsu.mp z.1).2.1.mpr c0)
          · rw [if_neg (fun z => c0 (e0.mp z))]
            unfold kM_gives_j100
            rw [if_pos rfl, if_neg h3, if_pos (inr_ hp), ix_ (show p < 2 ^ 31 by omega), m2]
            by_cases cb : b = 0
            · rcases (show m = 0 ∨ m = 1 by omega) with rfl | rfl
              · have ct : tk p b = false := by rw [← m3 b]; simp
                rw [if_pos (show nI 0 = 0 from rfl), cb, if_pos (show nI 0 ≤ 0 by decide)]
                unfold kM_gives_j155
                have k0 : mI σ 31 0 p = 0 ↔ (hvN σ n).2.1 p = 0 := hkv 0 (by omega)
                have k1 : mI σ 31 0 p = 1 ↔ (hvN σ n).2.1 p = 1 := hkv 1 (by omega)
                have k2 : mI σ 31 0 p = 2 ↔ (hvN σ n).2.1 p = 2 := hkv 2 (by omega)
                by_cases cA : w = 2 ∧ (hvN σ n).2.1 p = 0
                · refine hno _ _ ?_ ?_
                  · rw [if_pos (e2.mpr cA.1), if_pos (k0.mpr cA.2)]
                  · intro z
                    exact (hsu.mp z.1).2.2.2.1 cA.1 cA.2
                · have hA : (if nI w = 2 then (if mI σ 31 0 p = 0 then some (0, σ) else kM_gives_j166 σ (nI p) (nI 0) (if s % 4 = 1 then 1 else 0) (nI w) (mI σ 31 0 p)) else kM_gives_j166 σ (nI p) (nI 0) (if s % 4 = 1 then 1 else 0) (nI w) (mI σ 31 0 p)) = kM_gives_j166 σ (nI p) (nI 0) (if s % 4 = 1 then 1 else 0) (nI w) (mI σ 31 0 p) := by
                    by_cases x : nI w = 2
                    · rw [if_pos x, if_neg (fun y => cA ⟨e2.mp x, k0.mp y⟩)]
                    · rw [if_neg x]
                  rw [hA]
                  unfold kM_gives_j166
                  by_cases cB : w = 3 ∧ (hvN σ n).2.1 p ≠ 2
                  · refine hno _ _ ?_ ?_
                    · rw [if_pos (e3.mpr cB.1), if_neg (fun y => cB.2 (k2.mp y))]
                    · intro z
                      exact cB.2 ((hsu.mp z.1).2.2.2.2.1 cB.1)
                  · have hBB : (if nI w = 3 then (if mI σ 31 0 p = 2 then kM_gives_j180 σ (nI p) (nI 0) (if s % 4 = 1 then 1 else 0) (nI w) (mI σ 31 0 p) else some (0, σ)) else kM_gives_j180 σ (nI p) (nI 0) (if s % 4 = 1 then 1 else 0) (nI w) (mI σ 31 0 p)) = kM_gives_j180 σ (nI p) (nI 0) (if s % 4 = 1 then 1 else 0) (nI w) (mI σ 31 0 p) := by
                      by_cases x : nI w = 3
                      · rw [if_pos x, if_pos (Classical.byContradiction fun y => cB ⟨e3.mp x, fun z => y (k2.mpr z)⟩)]
                      · rw [if_neg x]
                    rw [hBB]
                    unfold kM_gives_j180
                    rw [if_pos (inr_ hp), ix_ (show p < 2 ^ 31 by omega)]
                    by_cases c4 : s % 4 = 1
                    · have hw4 := C1.mp c4
                      rw [if_pos c4, if_neg (by decide)]
                      by_cases cD : (hvN σ n).2.1 p = 1
                      · rw [if_pos (k1.mpr cD)]
                        obtain ⟨-, -, -, -, -, -, -, hd⟩ := hI p hp
                        rcases hd with d | ⟨g1, g2, g3, g4, g5⟩ | ⟨g1, g2, -⟩
                        · refine hno _ _ ?_ ?_
                          · rw [d, if_pos (Int32.lt_of_lt_of_le (show (-1 : Int32) < 0 by decide) (nI_pos' (by omega)))]
                          · intro z
                            have := ((hsu.mp z.1).2.2.2.2.2 hw4).2
                            rw [dr_of ho, d, if_pos rfl] at this
                            omega
                        · rw [g2, if_neg (nI_nlt (by omega) (by omega))]
                          have hr2 : isRm σ (p + 1) = true := rm_kd g1 (by simp [g5])
                          rw [mFree (p := p + 1) hI hM g1 hr2 (by rw [g5]; decide)]
                          simp only [Option.bind_some]
                          by_cases cE : fu (hvN σ n) tk (p + 1) 0 = true
                          · rw [if_pos cE, if_neg (by decide), if_pos ⟨hsu.mpr ⟨C1, ⟨fun z => by omega, fun z => by omega⟩, by omega, by omega, by omega, fun _ => ⟨cD, by rw [dr_of ho, g2, if_neg (nm1 _ (by omega)), ix_]⟩⟩, hfr.mpr ⟨⟨by omega, ct⟩, Or.inr cE⟩⟩]
                          · refine hno _ _ ?_ ?_
                            · rw [if_neg cE, if_pos rfl]
                            · intro z
                              rcases (hfr.mp z.2).2 with x | x
                              · exact x c4
                              · exact cE x
                        · refine hno _ _ ?_ ?_
                          · rw [g2, if_pos (nI_lt (by omega) (by omega))]
                          · intro z
                            have := ((hsu.mp z.1).2.2.2.2.2 hw4).2
                            rw [dr_of ho, g2, if_neg (nm1 _ (by omega)), ix_] at this
                            omega
                      · refine hno _ _ ?_ ?_
                        · rw [if_neg (fun y => cD (k1.mp y))]
                        · intro z
                          exact cD ((hsu.mp z.1).2.2.2.2.2 hw4).1
                    · rw [if_neg c4, if_pos rfl, if_pos ⟨hsu.mpr ⟨C1, ⟨fun z => absurd z hk3, fun z => absurd z c0⟩, by omega, fun x y => cA ⟨x, y⟩, fun x => Classical.byContradiction fun y => cB ⟨x, y⟩, fun x => absurd (C1.mpr x) c4⟩, hfr.mpr ⟨⟨by omega, ct⟩, Or.inl c4⟩⟩]
              · refine hno _ _ ?_ ?_
                · rw [if_neg (by decide)]
                · intro z
                  have := (hfr.mp z.2).1.2
                  rw [cb, ← m3 0] at this
                  exact absurd this (by decide)
            · refine hno _ _ ?_ ?_
              · rw [if_neg (nI_nle (by omega) (by omega))]
                split <;> rfl
              · intro z
                have := (hsu.mp z.1).2.2.1
                omega
      · rw [if_neg C1]
        exact hno _ _ rfl (fun z => C1 (hsu.mp z.1).1)
    · rw [if_neg ho, if_pos rfl]
      refine hno _ _ rfl (fun z => ho ?_)
      have := (suS_iff.mp z.1).1
      rw [← hpe] at this
      exact this
  · rw [if_neg hr, if_pos rfl]
    refine hno _ _ rfl (fun z => hr ?_)
    have := (suS_iff.mp z.1).1
    rw [← hpe] at this
    exact opn_rm this
