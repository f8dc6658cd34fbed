/-! who wants a night -/
def pe (σ : Mem) (q : Nat) : PE := (q, wq σ q, ix (mI σ 40 0 q))
def WLi (σ : Mem) (n : Nat) : Nat → List PE
  | 0 => []
  | i + 1 => WLi σ n i ++ (if wnt σ i n = true then [pe σ i] else [])
theorem wli_mem {σ : Mem} {n : Nat} : ∀ {i : Nat} {e : PE}, e ∈ WLi σ n i → e.1 < i ∧ e = pe σ e.1 ∧ wnt σ e.1 n = true
  | 0, e, h => by cases h
  | i + 1, e, h => by
    rcases List.mem_append.mp h with h | h
    · obtain ⟨a, b⟩ := wli_mem h
      exact ⟨by omega, b⟩
    · by_cases hw : wnt σ i n = true
      · rw [if_pos hw] at h
        simp at h
        subst h
        exact ⟨by show i < i + 1; omega, rfl, hw⟩
      · rw [if_neg hw] at h
        cases h
theorem wli_has {σ : Mem} {n q : Nat} : ∀ {i : Nat}, q < i → wnt σ q n = true → pe σ q ∈ WLi σ n i
  | 0, h, _ => by omega
  | i + 1, h, hw => by
    by_cases e : q = i
    · subst e
      refine List.mem_append_right _ ?_
      rw [if_pos hw]
      simp
    · exact List.mem_append_left _ (wli_has (by omega) hw)
theorem wli_len {σ : Mem} {n : Nat} : ∀ i, (WLi σ n i).length ≤ i
  | 0 => by simp [WLi]
  | i + 1 => by
    have := wli_len (σ := σ) (n := n) i
    unfold WLi
    rw [List.length_append]
    split
    · simp; omega
    · simp; omega
theorem wli_pw {σ : Mem} {n : Nat} : ∀ i, (WLi σ n i).Pairwise (fun a b => a.1 < b.1)
  | 0 => List.Pairwise.nil
  | i + 1 => by
    unfold WLi
    rw [List.pairwise_append]
    refine ⟨wli_pw i, ?_, fun a ha b hb => ?_⟩
    · split
      · simp
      · simp
    · split at hb
      · simp at hb
        subst hb
        exact (wli_mem ha).1
      · cases hb
theorem wli_ok {σ : Mem} {n N : Nat} (hB : BI σ N) : WLok (WLi σ n N) (wq σ) := by
  refine ⟨wli_pw N, fun e he => ?_⟩
  obtain ⟨h1, h2, h3⟩ := wli_mem he
  have hN := hB.1
  rw [h2]
  refine ⟨by show e.1 < 40; omega, rfl, (wq_nI hB h1).2, ?_⟩
  show ix (mI σ 40 0 e.1) ≤ 2
  obtain ⟨-, -, ⟨s, hs, es⟩, -⟩ := hB.2.2.2.1 e.1 h1
  have h4 := (wnt_iff.mp h3).1
  rw [es] at h4 ⊢
  rw [ix_]
  exact (st8 s hs).1.mp h4
theorem wli_fx {l : List Nat} {m : List (Nat × Nat)} {σ σ' : Mem} (h : Fx l m σ σ') (hn : nohit BT l m = true) (n : Nat) : ∀ i, WLi σ' n i = WLi σ n i
  | 0 => rfl
  | i + 1 => by
    show WLi σ' n i ++ _ = WLi σ n i ++ _
    rw [wli_fx h hn n i, wnt_fx h hn]
    unfold pe
    rw [wq_fx h hn, h.hI hn 40 0 i]
theorem take_one {WL : List PE} {i : Nat} {e : PE} (h : WL[i]? = some e) : WL.take (i + 1) = WL.take i ++ [e] := by
  rw [List.take_succ, h]
  rfl
theorem keys_ne {WL : List PE} (hp : WL.Pairwise (fun a b => a.1 < b.1)) {i j : Nat} {e e' : PE} (hi : WL[i]? = some e) (hj : WL[j]? = some e') (hne : i ≠ j) : e.1 ≠ e'.1 := by
  obtain ⟨a1, a2⟩ := List.getElem?_eq_some_iff.mp hi
  obtain ⟨b1, b2⟩ := List.getElem?_eq_some_iff.mp hj
  rw [List.pairwise_iff_getElem] at hp
  rcases Nat.lt_or_ge i j with h | h
  · have := hp i j a1 b1 h
    rw [a2, b2] at this
    omega
  · have := hp j i b1 a1 (by omega)
    rw [a2, b2] at this
    omega
theorem setSpot_in {σ : Mem} {q n : Nat} {v : Int32} (hn : n < 60) : kQ_setSpot σ q (nI n) v = some ((), sI σ 22 q n v) := by
  unfold kQ_setSpot
  rw [isNight_in hn]
  simp only [Option.bind_some, show ¬ ((1 : Int32) = 0) by decide, if_false, inr_ hn, if_true, ix_ (show n < 2 ^ 31 by omega)]
theorem spotIn_in {σ : Mem} {q n : Nat} (hn : n < 60) : kQ_spotIn σ q (nI n) = some (mI σ 22 q n, σ) := by
  unfold kQ_spotIn
  rw [isNight_in hn]
  simp only [Option.bind_some, show ¬ ((1 : Int32) = 0) by decide, if_false, inr_ hn, if_true, ix_ (show n < 2 ^ 31 by omega)]
theorem spotIn_out {σ : Mem} {q : Nat} {x : Int32} (h : x < 0 ∨ nI 60 ≤ x) : kQ_spotIn σ q x = some (-1, σ) := by
  unfold kQ_spotIn
  rw [isNight_out h]
  rfl
theorem gather_ok {σ : Mem} {N n : Nat} (hB : BI σ N) (hn : n < 60) : ∃ σ', kP_gather σ (nI n) = some ((), σ') ∧ Fx [12, 13, 22] [(11, 5)] σ σ' ∧ (∀ q k, mI σ' 22 q k = if q < N ∧ k = n then -1 else mI σ 22 q k) ∧ mI σ' 11 0 5 = nI (WLi σ n N).length ∧ ∀ j e, (WLi σ n N)[j]? = some e → mR σ' 12 0 j = some e.1 ∧ mI σ' 13 0 j = 0 := by
  have hN := hB.1
  unfold kP_gather
  obtain ⟨τ, l1, l2⟩ := lp_inv (f := kP_gather_s7 (nI n)) (fun i s => ∃ τ, s = (nI i, τ) ∧ Fx [12, 13, 22] [(11, 5)] σ τ ∧ (∀ q k, mI τ 22 q k = if q < i ∧ k = n then -1 else mI σ 22 q k) ∧ mI τ 11 0 5 = nI (WLi σ n i).length ∧ ∀ j e, (WLi σ n i)[j]? = some e → mR τ 12 0 j = some e.1 ∧ mI τ 13 0 j = 0)
    (fun τ => Fx [12, 13, 22] [(11, 5)] σ τ ∧ (∀ q k, mI τ 22 q k = if q < N ∧ k = n then -1 else mI σ 22 q k) ∧ mI τ 11 0 5 = nI (WLi σ n N).length ∧ ∀ j e, (WLi σ n N)[j]? = some e → mR τ 12 0 j = some e.1 ∧ mI τ 13 0 j = 0) N (by omega) (fun i s hi hs => by
    obtain ⟨τ, rfl, a1, a2, a3, a4⟩ := hs
    have hBt := BI.fx a1 rfl rfl hB
    refine Or.inl ?_
    have hF1 : Fx [12, 13, 22] [(11, 5)] σ (sI τ 22 i n (-1)) := a1.sI
    have hB1 := BI.fx hF1 rfl rfl hB
    have hlen := wli_len (σ := σ) (n := n) i
    have h22 : ∀ q k, mI (sI τ 22 i n (-1)) 22 q k = if q < i + 1 ∧ k = n then -1 else mI σ 22 q k := fun q k => by
      rw [mIsI]
      by_cases e : q = i ∧ k = n
      · rw [if_pos ⟨rfl, e⟩, if_pos ⟨by omega, e.2⟩]
      · rw [if_neg (fun z => e z.2), a2]
        by_cases e2 : q < i ∧ k = n
        · rw [if_pos e2, if_pos ⟨by omega, e2.2⟩]
        · rw [if_neg e2, if_neg (fun z => by omega)]
    have h11 : mI (sI τ 22 i n (-1)) 11 0 5 = nI (WLi σ n i).length := by rw [mIsI, if_neg (by omega)]; exact a3
    have hold : ∀ j e, (WLi σ n i)[j]? = some e → mR (sI τ 22 i n (-1)) 12 0 j = some e.1 ∧ mI (sI τ 22 i n (-1)) 13 0 j = 0 := fun j e he => by
      rw [mRsI, mIsI, if_neg (by omega)]
      exact a4 j e he
    have hskip : ¬ wnt σ i n = true → WLi σ n (i + 1) = WLi σ n i := fun h => by
      show WLi σ n i ++ _ = _
      rw [if_neg h, List.append_nil]
    simp only [kP_gather_s7, hBt.2.1, nge hi (by omega), if_false, at_in hBt hi, Option.bind_some, Option.elim_some, setSpot_in hn]
    rw [stands_in hB1 hi]
    simp only [Option.bind_some, hF1.I 40 0 i]
    by_cases e2 : mI σ 40 0 i ≤ 2
    · rw [if_pos e2, if_neg (by decide), covers_in hB1 hi]
      simp only [Option.bind_some, hF1.I 43 0 i, hF1.I 44 0 i]
      by_cases e3 : mI σ 43 0 i ≤ nI n ∧ nI n < mI σ 44 0 i
      · rw [if_pos e3, if_neg (by decide)]
        have hw : wnt σ i n = true := wnt_iff.mpr ⟨e2, e3⟩
        have hadd : WLi σ n (i + 1) = WLi σ n i ++ [pe σ i] := by
          show WLi σ n i ++ _ = _
          rw [if_pos hw]
        obtain ⟨L, hL⟩ : ∃ L, L = (WLi σ n i).length := ⟨_, rfl⟩
        rw [← hL] at h11 hlen
        have r1 : mI (sR (sI τ 22 i n (-1)) 12 0 L (some i)) 11 0 5 = nI L := by rw [mIsR]; exact h11
        have r2 : mI (sI (sR (sI τ 22 i n (-1)) 12 0 L (some i)) 13 0 L 0) 11 0 5 = nI L := by rw [mIsI, if_neg (by omega), mIsR]; exact h11
        simp only [h11, show ¬ (40 : Int32) ≤ nI L from nge (show L < 40 by omega), if_false, inr_ (show L < 40 by omega), if_true, ix_ (show L < 2 ^ 31 by omega), r1, zn0, r2, nI_1]
        refine ⟨_, rfl, _, rfl, ((hF1.sR).sI).sI, fun q k => ?_, ?_, fun j e he => ?_⟩
        · rw [mIsI, if_neg (by omega), mIsI, if_neg (by omega), mIsR]
          exact h22 q k
        · rw [mIsI, if_pos ⟨rfl, rfl, rfl⟩, hadd, List.length_append, ← hL]
          rfl
        · rw [mRsI, mRsI, mRsR, mIsI, if_neg (show ¬ (13 = 11 ∧ 0 = 0 ∧ j = 5) by omega), mIsI, mIsR]
          rw [hadd] at he
          by_cases ej : j = L
          · rw [ej, hL, List.getElem?_append_right (Nat.le_refl _)] at he
            simp at he
            rw [if_pos ⟨rfl, rfl, ej⟩, if_pos ⟨rfl, rfl, ej⟩, ← he]
            exact ⟨rfl, rfl⟩
          · rw [if_neg (fun z => ej z.2.2), if_neg (fun z => ej z.2.2)]
            refine hold j e ?_
            have hjl : j < L := by
              have := (List.getElem?_eq_some_iff.mp he).1
              rw [List.length_append] at this
              simp at this
              omega
            rw [List.getElem?_append_left (by omega)] at he
            exact he
      · rw [if_neg e3, if_pos rfl]
        exact ⟨_, rfl, _, by rw [nI_1], hF1, h22, by rw [hskip (fun z => e3 (wnt_iff.mp z).2)]; exact h11, by rw [hskip (fun z => e3 (wnt_iff.mp z).2)]; exact hold⟩
    · rw [if_neg e2, if_pos rfl]
      exact ⟨_, rfl, _, by rw [nI_1], hF1, h22, by rw [hskip (fun z => e2 (wnt_iff.mp z).1)]; exact h11, by rw [hskip (fun z => e2 (wnt_iff.mp z).1)]; exact hold⟩) (fun s hs => by
    obtain ⟨τ, rfl, a1, a2⟩ := hs
    have hBt := BI.fx a1 rfl rfl hB
    exact ⟨τ, by simp only [kP_gather_s7, hBt.2.1, nle (Nat.le_refl N) (by omega), if_true], a1, a2⟩) (s := (0, sI σ 11 0 5 0)) ⟨_, rfl, Fx.rf.sI, fun q k => by rw [mIsI, if_neg (by omega), if_neg (by omega)], by rw [mIsI, if_pos ⟨rfl, rfl, rfl⟩]; rfl, fun j e he => by cases he⟩
  rw [l1]
  exact ⟨τ, rfl, l2⟩
/-- the class's rows of who wants the night -/
def GR (σ : Mem) (WL : List PE) : Prop := mI σ 11 0 5 = nI WL.length ∧ ∀ j e, WL[j]? = some e → mR σ 12 0 j = some e.1
theorem GR.fx {l : List Nat} {m : List (Nat × Nat)} {σ σ' : Mem} {WL : List PE} (h : Fx l m σ σ') (hn : nohit [11, 12] l m = true) (hG : GR σ WL) : GR σ' WL :=
  ⟨by rw [h.hI hn 11 0 5]; exact hG.1, fun j e he => by rw [h.hR hn 12 0 j]; exact hG.2 j e he⟩
def KF (σ : Mem) (WL : List PE) (kp : Nat → Bool) : Prop := ∀ j e, WL[j]? = some e → mI σ 13 0 j = if kp e.1 = true then 1 else 0
theorem keepThose_ok {σ : Mem} {H : HV} {N n which : Nat} {x : ND × (Nat → Bool)} (hI : HI σ) (hB : BI σ N) (hH : hvN σ n = H) (hG : GR σ (WLi σ n N)) (hf : fit H tk0 x.1 = true) (hV : VR σ H tk0 x.1) (hK : KF σ (WLi σ n N) x.2) (hw3 : which < 3) :
    ∃ σ', kP_keepThose σ (nI which) = some ((), σ') ∧ Fx [10, 13] [] σ σ' ∧ fit H tk0 ((WLi σ n N).foldl (keepStep H which) x).1 = true ∧ VR σ' H tk0 ((WLi σ n N).foldl (keepStep H which) x).1 ∧ KF σ' (WLi σ n N) ((WLi σ n N).foldl (keepStep H which) x).2 := by
  have hN := hB.1
  have hW : WH H := by rw [← hH]; exact WHN hI
  have hO := wli_ok (n := n) hB
  have hlen := wli_len (σ := σ) (n := n) N
  obtain ⟨WL, hWL⟩ : ∃ WL, WL = WLi σ n N := ⟨_, rfl⟩
  rw [← hWL] at hG hK hO hlen ⊢
  unfold kP_keepThose
  obtain ⟨τ, l1, l2⟩ := lp_inv (f := kP_keepThose_s2 (nI which)) (fun i s => ∃ τ, s = (nI i, τ) ∧ Fx [10, 13] [] σ τ ∧ fit H tk0 ((WL.take i).foldl (keepStep H which) x).1 = true ∧ VR τ H tk0 ((WL.take i).foldl (keepStep H which) x).1 ∧ KF τ WL ((WL.take i).foldl (keepStep H which) x).2)
    (fun τ => Fx [10, 13] [] σ τ ∧ fit H tk0 (WL.foldl (keepStep H which) x).1 = true ∧ VR τ H tk0 (WL.foldl (keepStep H which) x).1 ∧ KF τ WL (WL.foldl (keepStep H which) x).2) WL.length (by omega) (fun i s hi hs => by
    obtain ⟨τ, rfl, a1, a2, a3, a4⟩ := hs
    have hBt := BI.fx a1 rfl rfl hB
    have hGt := GR.fx a1 rfl hG
    refine Or.inl ?_
    obtain ⟨e, he⟩ : ∃ e, WL[i]? = some e := ⟨_, List.getElem?_eq_getElem hi⟩
    have hem : e ∈ WL := List.mem_of_getElem? he
    have hw := wli_mem (hWL ▸ hem)
    have hr := hGt.2 i e he
    rw [take_one he, List.foldl_append]
    obtain ⟨y, hy⟩ : ∃ y, y = (WL.take i).foldl (keepStep H which) x := ⟨_, rfl⟩
    rw [← hy] at a2 a3 a4 ⊢
    simp only [List.foldl_cons, List.foldl_nil]
    obtain ⟨-, -, ⟨s, hs, es⟩, -, -, -, -, e21, -⟩ := hBt.2.2.2.1 e.1 hw.1
    have es' : mI σ 40 0 e.1 = nI s := by rw [← a1.I 40 0 e.1]; exact es
    have est : e.2.2 = s := by rw [hw.2.1]; show ix (mI σ 40 0 e.1) = s; rw [es', ix_]
    have ewq : e.2.1 = wq σ e.1 := by rw [hw.2.1]; rfl
    have hwq := wq_nI hB hw.1
    simp only [kP_keepThose_s2, hGt.1, nge hi (by omega), if_false, show ¬ (40 : Int32) ≤ nI i from nge (show i < 40 by omega), inr_ (show i < 40 by omega), if_true, ix_ (show i < 2 ^ 31 by omega), hr, Option.elim_some, e21, es]
    unfold keepStep
    by_cases c1 : s = which
    · rw [if_pos (by rw [c1]), if_pos (by rw [est, c1])]
      have e20 : mI τ 21 e.1 0 = nI e.2.1 := by rw [(hBt.2.2.2.1 e.1 hw.1).2.2.2.2.1, a1.I 41 0 e.1, hwq.1, ewq]
      have hw5 : e.2.1 < 5 := by rw [ewq]; exact hwq.2
      obtain ⟨τ1, t1, t2, t3⟩ := addNeed_ok hw5 a3
      have hbd := fit_bd (fun k => FK_le) FS_le a2
      have hft := fits_ok hW t3 (fun w hw => by
        unfold nds
        have := hbd w hw
        have := hbd e.2.1 hw5
        split <;> omega)
      rw [e20, t1]
      simp only [Option.bind_some, hft]
      by_cases c2 : fit H tk0 (nds y.1 e.2.1 (y.1 e.2.1 + 1)) = true
      · have m1 : mI (sI τ1 13 0 i 1) 13 0 i = 1 := by rw [mIsI, if_pos ⟨rfl, rfl, rfl⟩]
        simp only [c2, if_true, zn1, m1, show ¬ ((1 : Int32) = 0) by decide, if_false, nI_1]
        refine ⟨_, rfl, _, rfl, (a1.tr (t2.wk rfl rfl)).sI, trivial, ⟨fun p hp => ?_, fun k hk => ?_, fun w hw => ?_, ?_⟩, fun j e' he' => ?_⟩
        · obtain ⟨m, x1, x2, x3⟩ := t3.1 p hp
          exact ⟨m, x1, by rw [mIsI, if_neg (by omega)]; exact x2, x3⟩
        · rw [mIsI, if_neg (by omega)]; exact t3.2.1 k hk
        · rw [mIsI, if_neg (by omega)]; exact t3.2.2.1 w hw
        · rw [mIsI, if_neg (by omega)]; exact t3.2.2.2
        · rw [mIsI]
          by_cases ej : j = i
          · subst ej
            rw [he] at he'
            cases he'
            rw [if_pos ⟨rfl, rfl, rfl⟩]
            simp
          · rw [if_neg (fun z => ej z.2.2)]
            have := keys_ne hO.1 he' he ej
            simp only [this, if_false]
            rw [t2.I 13 0 j]
            exact a4 j e' he'
      · have m1 : mI (sI τ1 13 0 i 0) 13 0 i = 0 := by rw [mIsI, if_pos ⟨rfl, rfl, rfl⟩]
        have m2 : mI (sI τ1 13 0 i 0) 21 e.1 0 = nI e.2.1 := by rw [mIsI, if_neg (by omega), t2.I 21 e.1 0, e20]
        have t3' : VR (sI τ1 13 0 i 0) H tk0 (nds y.1 e.2.1 (y.1 e.2.1 + 1)) := by
          refine ⟨fun p hp => ?_, fun k hk => ?_, fun w hw => ?_, ?_⟩
          · obtain ⟨m, x1, x2, x3⟩ := t3.1 p hp
            exact ⟨m, x1, by rw [mIsI, if_neg (by omega)]; exact x2, x3⟩
          · rw [mIsI, if_neg (by omega)]; exact t3.2.1 k hk
          · rw [mIsI, if_neg (by omega)]; exact t3.2.2.1 w hw
          · rw [mIsI, if_neg (by omega)]; exact t3.2.2.2
        obtain ⟨τ2, u1, u2, u3⟩ := dropNeed_ok hw5 t3' (by unfold nds; rw [if_pos rfl]; omega)
        have hnd : nds (nds y.1 e.2.1 (y.1 e.2.1 + 1)) e.2.1 (nds y.1 e.2.1 (y.1 e.2.1 + 1) e.2.1 - 1) = y.1 := by
          funext w
          unfold nds
          by_cases ew : w = e.2.1
          · subst ew; simp
          · simp [ew]
        rw [hnd] at u3
        simp only [c2, Bool.false_eq_true, if_false, zn0, m1, if_true, m2, u1, Option.bind_some, nI_1]
        refine ⟨_, rfl, _, rfl, ((a1.tr (t2.wk rfl rfl)).sI (t := 13) (i := 0) (k := i) (v := 0)).tr (u2.wk rfl rfl), ?_, ?_, fun j e' he' => ?_⟩
        · exact a2
        · exact u3
        · rw [u2.I 13 0 j, mIsI]
          by_cases ej : j = i
          · subst ej
            rw [he] at he'
            cases he'
            rw [if_pos ⟨rfl, rfl, rfl⟩]
            simp
          · rw [if_neg (fun z => ej z.2.2)]
            have := keys_ne hO.1 he' he ej
            simp only [this, if_false]
            rw [t2.I 13 0 j]
            exact a4 j e' he'
    · rw [if_neg (fun z => c1 ((nI_eq (by omega) (by omega)).mp z)), if_neg (by rw [est]; exact c1)]
      exact ⟨_, rfl, τ, by rw [nI_1], a1, a2, a3, a4⟩) (fun s hs => by
    obtain ⟨τ, rfl, a1, a2⟩ := hs
    have hGt := GR.fx a1 rfl hG
    rw [List.take_length] at a2
    exact ⟨τ, by simp only [kP_keepThose_s2, hGt.1, nle (Nat.le_refl WL.length) (by omega), if_true], a1, a2⟩) (s := (0, σ)) ⟨σ, rfl, Fx.rf, hf, hV, hK⟩
  rw [l1]
  exact ⟨τ, rfl, l2⟩
