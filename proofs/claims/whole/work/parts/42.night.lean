theorem again_skip {H : HV} {pv : Nat → Option Nat} {kp : Nat → Bool} {x : ST} {e : PE} (h : ¬ kp e.1 = true) : againStep H pv kp x e = x := if_neg h
theorem again_none {H : HV} {pv : Nat → Option Nat} {kp : Nat → Bool} {x : ST} {e : PE} (h : ∀ s, pv e.1 = some s → give H e.2.1 s x.1 = none) : againStep H pv kp x e = x := by
  unfold againStep
  by_cases hk : kp e.1 = true
  · rw [if_pos hk]
    cases ep : pv e.1 with
    | none => rfl
    | some s => simp only [h s ep]
  · rw [if_neg hk]
theorem again_some {H : HV} {pv : Nat → Option Nat} {kp : Nat → Bool} {x : ST} {e : PE} {s : Nat} {y : TK × ND} (hk : kp e.1 = true) (hp : pv e.1 = some s) (hg : give H e.2.1 s x.1 = some y) : againStep H pv kp x e = (y, ups x.2 e.1 (some s)) := by
  unfold againStep
  rw [if_pos hk, hp]
  simp only [hg]
theorem first_skip {H : HV} {kp : Nat → Bool} {x : ST} {e : PE} (h : ¬ (kp e.1 = true ∧ x.2 e.1 = none)) : firstStep H kp x e = x := if_neg h
theorem first_none {H : HV} {kp : Nat → Bool} {x : ST} {e : PE} (h : fstS H e.2.1 x.1 = none) : firstStep H kp x e = x := by
  unfold firstStep
  by_cases hk : kp e.1 = true ∧ x.2 e.1 = none
  · rw [if_pos hk, h]
  · rw [if_neg hk]
theorem first_some {H : HV} {kp : Nat → Bool} {x : ST} {e : PE} {s : Nat} {y : TK × ND} (hk : kp e.1 = true) (hn : x.2 e.1 = none) (hp : fstS H e.2.1 x.1 = some s) (hg : give H e.2.1 s x.1 = some y) : firstStep H kp x e = (y, ups x.2 e.1 (some s)) := by
  unfold firstStep
  rw [if_pos ⟨hk, hn⟩, hp]
  simp only [hg]
theorem VR.fx {l : List Nat} {m : List (Nat × Nat)} {σ σ' : Mem} {H : HV} {tk : TK} {nd : ND} (h : Fx l m σ σ') (hn : nohit [8, 9, 10] l m = true) (hs : noslot 7 4 l m = true) (hV : VR σ H tk nd) : VR σ' H tk nd := by
  obtain ⟨a, b, c, d⟩ := hV
  refine ⟨fun p hp => ?_, fun k hk => by rw [h.hI hn 9 0 k]; exact b k hk, fun w hw => by rw [h.hI hn 10 0 w]; exact c w hw, by rw [h.sI_ 0 hs]; exact d⟩
  obtain ⟨m, m1, m2, m3⟩ := a p hp
  exact ⟨m, m1, by rw [h.hI hn 8 0 p]; exact m2, m3⟩
theorem KF.fx {l : List Nat} {m : List (Nat × Nat)} {σ σ' : Mem} {WL : List PE} {kp : Nat → Bool} (h : Fx l m σ σ') (hn : nohit [13] l m = true) (hK : KF σ WL kp) : KF σ' WL kp := fun j e he => by rw [h.hI hn 13 0 j]; exact hK j e he
theorem nm512 : ∀ s, s < 512 → nI s ≠ -1 := by decide +kernel
/-- the spots of the night n, as the class has them; all other nights as they were -/
def SR (σ0 σ : Mem) (N n : Nat) (sp : Nat → Option Nat) : Prop := (∀ q, q < N → mI σ 22 q n = cd (sp q)) ∧ ∀ q k, k ≠ n → mI σ 22 q k = mI σ0 22 q k
theorem SR.set {σ0 σ : Mem} {N n q : Nat} {sp : Nat → Option Nat} {o : Option Nat} (h : SR σ0 σ N n sp) : SR σ0 (sI σ 22 q n (cd o)) N n (ups sp q o) := by
  refine ⟨fun q' hq' => ?_, fun q' k hk => by rw [mIsI, if_neg (fun z => hk z.2.2)]; exact h.2 q' k hk⟩
  rw [mIsI]
  unfold ups
  by_cases e : q' = q
  · rw [if_pos ⟨rfl, e, rfl⟩, if_pos e]
  · rw [if_neg (fun z => e z.2.1), if_neg e]
    exact h.1 q' hq'
theorem SR.fx {l : List Nat} {m : List (Nat × Nat)} {σ0 σ σ' : Mem} {N n : Nat} {sp : Nat → Option Nat} (h : Fx l m σ σ') (hn : nohit [22] l m = true) (hS : SR σ0 σ N n sp) : SR σ0 σ' N n sp :=
  ⟨fun q hq => by rw [h.hI hn 22 q n]; exact hS.1 q hq, fun q k hk => by rw [h.hI hn 22 q k]; exact hS.2 q k hk⟩
theorem ups_same {f : Nat → Option Nat} {q : Nat} (h : f q = none) : ups f q none = f := by
  funext x
  unfold ups
  by_cases e : x = q
  · rw [if_pos e, e, h]
  · rw [if_neg e]
/-- what is known of the night ahead: its spots, and that they suit -/
def PV (σ : Mem) (N n : Nat) (pv : Nat → Option Nat) : Prop := ∀ q, q < N → (n = 0 → pv q = none) ∧ (1 ≤ n → mI σ 22 q (n - 1) = cd (pv q)) ∧ ∀ s, pv q = some s → suS (hvS σ) (wq σ q) s = true
theorem spotAgain_ok {σ σ0 : Mem} {H : HV} {N n q : Nat} {tk : TK} {nd : ND} {pv : Nat → Option Nat} {sp : Nat → Option Nat} (hI : HI σ) (hB : BI σ N) (hn : n < 60) (hH : hvN σ n = H) (hP : PV σ0 N n pv) (hSS : hvS σ = hvS σ0) (hwqq : wq σ q = wq σ0 q) (hV : VR σ H tk nd) (hS : SR σ0 σ N n sp) (hb : ∀ w, w < 5 → nd w ≤ 300) (hq : q < N) (h1 : 1 ≤ nd (wq σ q)) :
    ∃ σ', Fx [8, 9, 10] [(7, 4)] σ σ' ∧ ((kP_spotAgain σ q (nI n) = some (-1, σ') ∧ (∀ s, pv q = some s → give H (wq σ q) s (tk, nd) = none) ∧ VR σ' H tk nd) ∨ (∃ s y, pv q = some s ∧ kP_spotAgain σ q (nI n) = some (nI s, σ') ∧ give H (wq σ q) s (tk, nd) = some y ∧ VR σ' H y.1 y.2)) := by
  obtain ⟨p0, p1, p2⟩ := hP q hq
  have hw := wq_nI hB hq
  have e20 : mI σ 21 q 0 = nI (wq σ q) := by rw [(hB.2.2.2.1 q hq).2.2.2.2.1, hw.1]
  unfold kP_spotAgain
  have hprev : kQ_spotIn σ q (nI n - 1) = some (cd (pv q), σ) := by
    cases n with
    | zero =>
      rw [show nI 0 - 1 = -1 by decide, spotIn_out (Or.inl (by decide)), p0 rfl]
      rfl
    | succ n =>
      rw [nI_pred, spotIn_in (by omega), hS.2 q n (by omega), ← p1 (by omega)]
      rfl
  rw [hprev]
  simp only [Option.bind_some, e20]
  cases e : pv q with
  | none =>
    rw [show cd none = -1 from rfl, take_none]
    exact ⟨σ, Fx.rf, Or.inl ⟨rfl, (fun s hs => by cases hs), hV⟩⟩
  | some s =>
    have hsu := p2 s e
    have hs := suS_iff.mp hsu
    rw [show cd (some s) = nI s from rfl]
    obtain ⟨r, σ', t1, t2, t3⟩ := take_ok (s := s) (w := wq σ q) hI hH hV hb hw.2 h1 hs.2.1 hs.2.2.1 (fun hf => by
      rw [← hH] at hf ⊢
      refine suS_NS ?_ (frS_open hf)
      rw [hSS, hwqq]
      exact hsu)
    rw [t1]
    refine ⟨σ', t2, ?_⟩
    rcases t3 with ⟨rfl, y, g1, g2⟩ | ⟨rfl, g1, g2⟩
    · exact Or.inr ⟨s, y, rfl, rfl, g1, g2⟩
    · exact Or.inl ⟨rfl, (fun s' hs' => by cases hs'; exact g1), g2⟩
theorem again_loop {σ σ0 : Mem} {H : HV} {N n : Nat} {WL : List PE} {kp : Nat → Bool} {pv : Nat → Option Nat} {x0 : ST} (hI : HI σ) (hB : BI σ N) (hn : n < 60) (hH : hvN σ n = H) (hWL : WL = WLi σ n N) (hP : PV σ0 N n pv) (hSS : hvS σ = hvS σ0) (hwqq : ∀ q, wq σ q = wq σ0 q) (hG : GR σ WL) (hK : KF σ WL kp) (hgi : GI H (wq σ) kp x0) (hx0 : ∀ q, x0.2 q = none) (hV : VR σ H x0.1.1 x0.1.2) (hS : SR σ0 σ N n x0.2) :
    ∃ τ, loopF FU (kP_makeNight_s38 (nI n)) (0, σ) = some τ ∧ Fx [8, 9, 10, 22] [(7, 4)] σ τ ∧ VR τ H (WL.foldl (againStep H pv kp) x0).1.1 (WL.foldl (againStep H pv kp) x0).1.2 ∧ SR σ0 τ N n (WL.foldl (againStep H pv kp) x0).2 := by
  have hN := hB.1
  have hO : WLok WL (wq σ) := by rw [hWL]; exact wli_ok hB
  have hlen : WL.length ≤ N := by rw [hWL]; exact wli_len N
  refine lp_inv (f := kP_makeNight_s38 (nI n)) (fun i s => ∃ τ, s = (nI i, τ) ∧ Fx [8, 9, 10, 22] [(7, 4)] σ τ ∧ VR τ H ((WL.take i).foldl (againStep H pv kp) x0).1.1 ((WL.take i).foldl (againStep H pv kp) x0).1.2 ∧ SR σ0 τ N n ((WL.take i).foldl (againStep H pv kp) x0).2) _ WL.length (by omega) (fun i s hi hs => ?_) (fun s hs => ?_) ⟨σ, rfl, Fx.rf, hV, hS⟩
  · obtain ⟨τ, rfl, a1, a2, a3⟩ := hs
    refine Or.inl ?_
    have hIt := HI.fx a1 rfl hI
    have hBt := BI.fx a1 rfl rfl hB
    have hGt := GR.fx a1 rfl hG
    have hKt := KF.fx a1 rfl hK
    obtain ⟨e, he⟩ : ∃ e, WL[i]? = some e := ⟨_, List.getElem?_eq_getElem hi⟩
    have hem : e ∈ WL := List.mem_of_getElem? he
    have hw := wli_mem (hWL ▸ hem)
    obtain ⟨gi, hpre⟩ := again_GI (pv := pv) hO hgi hx0 (WL.take i) (WL.drop i) (List.take_append_drop i WL).symm
    rw [take_one he, List.foldl_append]
    obtain ⟨x, hx⟩ : ∃ x, x = (WL.take i).foldl (againStep H pv kp) x0 := ⟨_, rfl⟩
    rw [← hx] at a2 a3 gi hpre ⊢
    simp only [List.foldl_cons, List.foldl_nil]
    have hno : x.2 e.1 = none := by
      cases e3 : x.2 e.1 with
      | none => rfl
      | some s =>
        obtain ⟨e', b, c⟩ := hpre e.1 (by rw [e3]; simp)
        obtain ⟨j, hj⟩ := List.getElem?_of_mem b
        have hjl := (List.getElem?_eq_some_iff.mp hj).1
        rw [List.length_take] at hjl
        rw [List.getElem?_take_of_lt (by omega)] at hj
        exact absurd c (keys_ne hO.1 hj he (by omega))
    have ewq : e.2.1 = wq σ e.1 := by rw [hw.2.1]; rfl
    have hwt : wq τ e.1 = wq σ e.1 := wq_fx a1 rfl e.1
    simp only [kP_makeNight_s38, hGt.1, nge hi (by omega), if_false, show ¬ (40 : Int32) ≤ nI i from nge (show i < 40 by omega), inr_ (show i < 40 by omega), if_true, ix_ (show i < 2 ^ 31 by omega), hGt.2 i e he, Option.elim_some, hKt i e he]
    by_cases c1 : kp e.1 = true
    · simp only [c1, if_true, show ¬ ((1 : Int32) = 0) by decide, if_false]
      have hq40 := (hO.2 e hem).1
      have hneed := GI_need gi hq40 c1 hno
      obtain ⟨τ1, t1, t2⟩ := spotAgain_ok (q := e.1) (n := n) (pv := pv) hIt hBt hn (by rw [hvN_fx a1 rfl]; exact hH) hP (by rw [hvS_fx a1 rfl]; exact hSS) (by rw [hwt]; exact hwqq e.1) a2 a3 (fun w hw => Nat.le_succ_of_le (fit_bd (fun k => FK_le) FS_le gi.1 w hw)) hw.1 (by rw [hwt]; exact hneed)
      have aS := SR.fx t1 rfl a3
      rcases t2 with ⟨k1, k2, k3⟩ | ⟨s, y, k0, k1, k2, k3⟩
      · rw [k1]
        simp only [Option.bind_some, setSpot_in hn, nI_1]
        rw [again_none (fun s hs => by have := k2 s hs; rw [hwt, ← ewq] at this; exact this)]
        refine ⟨_, rfl, _, rfl, (a1.tr (t1.wk rfl rfl)).sI, VR.fx (Fx.rf.sI (l := [22]) (m := [])) rfl rfl k3, ?_⟩
        have := aS.set (q := e.1) (o := none)
        rw [ups_same hno] at this
        exact this
      · rw [k1]
        simp only [Option.bind_some, setSpot_in hn, nI_1]
        rw [hwt, ← ewq] at k2
        rw [again_some c1 k0 k2]
        exact ⟨_, rfl, _, rfl, (a1.tr (t1.wk rfl rfl)).sI, VR.fx (Fx.rf.sI (l := [22]) (m := [])) rfl rfl k3, aS.set (q := e.1) (o := some s)⟩
    · rw [again_skip c1]
      simp only [c1, Bool.false_eq_true, if_false, if_true]
      exact ⟨_, rfl, τ, by rw [nI_1], a1, a2, a3⟩
  · obtain ⟨τ, rfl, a1, a2⟩ := hs
    have hGt := GR.fx a1 rfl hG
    rw [List.take_length] at a2
    exact ⟨τ, by simp only [kP_makeNight_s38, hGt.1, nle (Nat.le_refl WL.length) (by omega), if_true], a1, a2⟩
theorem first_loop {σ σ0 : Mem} {H : HV} {N n : Nat} {WL : List PE} {kp : Nat → Bool} {x0 : ST} (hI : HI σ) (hB : BI σ N) (hn : n < 60) (hH : hvN σ n = H) (hWL : WL = WLi σ n N) (hG : GR σ WL) (hK : KF σ WL kp) (hgi : GI H (wq σ) kp x0) (hV : VR σ H x0.1.1 x0.1.2) (hS : SR σ0 σ N n x0.2) :
    ∃ τ, loopF FU (kP_makeNight_s91 (nI n)) (0, σ) = some τ ∧ Fx [8, 9, 10, 22] [(7, 4)] σ τ ∧ VR τ H (WL.foldl (firstStep H kp) x0).1.1 (WL.foldl (firstStep H kp) x0).1.2 ∧ SR σ0 τ N n (WL.foldl (firstStep H kp) x0).2 := by
  have hN := hB.1
  have hW : WH H := by rw [← hH]; exact WHN hI
  have hO : WLok WL (wq σ) := by rw [hWL]; exact wli_ok hB
  have hlen : WL.length ≤ N := by rw [hWL]; exact wli_len N
  refine lp_inv (f := kP_makeNight_s91 (nI n)) (fun i s => ∃ τ, s = (nI i, τ) ∧ Fx [8, 9, 10, 22] [(7, 4)] σ τ ∧ VR τ H ((WL.take i).foldl (firstStep H kp) x0).1.1 ((WL.take i).foldl (firstStep H kp) x0).1.2 ∧ SR σ0 τ N n ((WL.take i).foldl (firstStep H kp) x0).2) _ WL.length (by omega) (fun i s hi hs => ?_) (fun s hs => ?_) ⟨σ, rfl, Fx.rf, hV, hS⟩
  · obtain ⟨τ, rfl, a1, a2, a3⟩ := hs
    refine Or.inl ?_
    have hIt := HI.fx a1 rfl hI
    have hBt := BI.fx a1 rfl rfl hB
    have hGt := GR.fx a1 rfl hG
    have hKt := KF.fx a1 rfl hK
    obtain ⟨e, he⟩ : ∃ e, WL[i]? = some e := ⟨_, List.getElem?_eq_getElem hi⟩
    have hem : e ∈ WL := List.mem_of_getElem? he
    have hw := wli_mem (hWL ▸ hem)
    obtain ⟨gi, -⟩ := first_GI hW hO hgi (WL.take i) (WL.drop i) (List.take_append_drop i WL).symm
    rw [take_one he, List.foldl_append]
    obtain ⟨x, hx⟩ : ∃ x, x = (WL.take i).foldl (firstStep H kp) x0 := ⟨_, rfl⟩
    rw [← hx] at a2 a3 gi ⊢
    simp only [List.foldl_cons, List.foldl_nil]
    have ewq : e.2.1 = wq σ e.1 := by rw [hw.2.1]; rfl
    have hwt : wq τ e.1 = wq σ e.1 := wq_fx a1 rfl e.1
    have hwn := wq_nI hBt hw.1
    have e20 : mI τ 21 e.1 0 = nI (wq σ e.1) := by rw [(hBt.2.2.2.1 e.1 hw.1).2.2.2.2.1, hwn.1, hwt]
    simp only [kP_makeNight_s91, hGt.1, nge hi (by omega), if_false, show ¬ (40 : Int32) ≤ nI i from nge (show i < 40 by omega), inr_ (show i < 40 by omega), if_true, ix_ (show i < 2 ^ 31 by omega), hGt.2 i e he, Option.elim_some, hKt i e he]
    by_cases c1 : kp e.1 = true
    · simp only [c1, if_true, show ¬ ((1 : Int32) = 0) by decide, if_false, spotIn_in hn, Option.bind_some, a3.1 e.1 hw.1]
      cases c2 : x.2 e.1 with
      | some s =>
        have hs512 : s < 512 := (suS_iff.mp (gi.2.2.1 e.1 s c2).1).2.1
        rw [first_skip (fun z => by rw [c2] at z; cases z.2), show cd (some s) = nI s from rfl, if_neg (nm512 s hs512)]
        exact ⟨_, rfl, τ, by rw [nI_1], a1, a2, a3⟩
      | none =>
        rw [show cd none = -1 from rfl, if_pos rfl]
        have hq40 := (hO.2 e hem).1
        have hneed := GI_need gi hq40 c1 c2
        rw [← ewq] at hneed
        have hbd : ∀ w, w < 5 → x.1.2 w ≤ 300 := fun w hw => Nat.le_succ_of_le (fit_bd (fun k => FK_le) FS_le gi.1 w hw)
        have hHt : hvN τ n = H := by rw [hvN_fx a1 rfl]; exact hH
        have hfin : ∀ r τ1, Fx [8, 9, 10] [(7, 4)] τ τ1 → FR1 H e.2.1 x.1.1 x.1.2 r τ1 → ∃ s', kP_makeNight_j159 τ1 (nI n) (nI i) r (nI n) (some e.1) = some (Sum.inl s') ∧ ∃ τ', s' = (nI (i + 1), τ') ∧ Fx [8, 9, 10, 22] [(7, 4)] σ τ' ∧ VR τ' H (firstStep H kp x e).1.1 (firstStep H kp x e).1.2 ∧ SR σ0 τ' N n (firstStep H kp x e).2 := by
          intro r τ1 t1 t2
          unfold kP_makeNight_j159
          simp only [Option.elim_some, setSpot_in hn, Option.bind_some, nI_1]
          have aS := SR.fx t1 rfl a3
          rcases t2 with ⟨s, y, g1, g2, g3, rfl, g4⟩ | ⟨g1, rfl, g2⟩
          · rw [show (x.1.1, x.1.2) = x.1 from rfl] at g1 g3
            rw [first_some c1 c2 g1 g3]
            exact ⟨_, rfl, _, rfl, (a1.tr (t1.wk rfl rfl)).sI, VR.fx (Fx.rf.sI (l := [22]) (m := [])) rfl rfl g4, aS.set (q := e.1) (o := some s)⟩
          · rw [show (x.1.1, x.1.2) = x.1 from rfl] at g1
            rw [first_none g1]
            have := aS.set (q := e.1) (o := none)
            rw [ups_same c2] at this
            exact ⟨_, rfl, _, rfl, (a1.tr (t1.wk rfl rfl)).sI, VR.fx (Fx.rf.sI (l := [22]) (m := [])) rfl rfl g2, this⟩
        rw [e20]
        have hw5 : wq σ e.1 < 5 := by rw [← hwt]; exact hwn.2
        by_cases c4 : wq σ e.1 = 4
        · rw [c4, if_pos (show nI 4 = 4 from rfl)]
          have e4 : e.2.1 = 4 := by rw [ewq]; exact c4
          rw [e4] at hneed
          obtain ⟨r, τ1, t0, t1, t2⟩ := firstSuite_ok hIt hHt a2 hbd hneed
          rw [t0]
          exact hfin r τ1 t1 (by rw [e4]; exact t2)
        · rw [if_neg (show ¬ nI (wq σ e.1) = (4 : Int32) from fun z => c4 ((nI_eq (b := 4) (by omega) (by decide)).mp z))]
          rw [← ewq] at c4 hw5 ⊢
          obtain ⟨r, τ1, t0, t1, t2⟩ := firstUnit_ok hIt hHt a2 hbd (show e.2.1 < 4 by omega) hneed
          rw [t0]
          exact hfin r τ1 t1 t2
    · rw [first_skip (fun z => c1 z.1)]
      simp only [c1, Bool.false_eq_true, if_false, if_true]
      exact ⟨_, rfl, τ, by rw [nI_1], a1, a2, a3⟩
  · obtain ⟨τ, rfl, a1, a2⟩ := hs
    have hGt := GR.fx a1 rfl hG
    rw [List.take_length] at a2
    exact ⟨τ, by simp only [kP_makeNight_s91, hGt.1, nle (Nat.le_refl WL.length) (by omega), if_true], a1, a2⟩
theorem makeNight_ok {σ : Mem} {N n : Nat} {pv : Nat → Option Nat} (hI : HI σ) (hB : BI σ N) (hn : n < 60) (hP : PV σ N n pv) : ∃ σ', kP_makeNight σ (nI n) = some ((), σ') ∧ Fx [8, 9, 10, 12, 13, 22] [(7, 4), (11, 5)] σ σ' ∧ SR σ σ' N n (pnight (hvN σ n) (WLi σ n N) pv).2 := by
  obtain ⟨τ1, g1, g2, g3, g4, g5⟩ := gather_ok hB hn
  have hI1 := HI.fx g2 rfl hI
  have hB1 := BI.fx g2 rfl rfl hB
  have hlen := wli_len (σ := σ) (n := n) N
  have hN := hB.1
  have hS1 : SR σ τ1 N n (fun _ => none) := ⟨fun q hq => by rw [g3, if_pos ⟨hq, rfl⟩]; rfl, fun q k hk => by rw [g3, if_neg (fun z => hk z.2)]⟩
  unfold kP_makeNight
  rw [g1]
  simp only [Option.bind_some, g4]
  by_cases h0 : (WLi σ n N).length = 0
  · rw [h0, if_pos (show nI 0 = 0 from rfl)]
    refine ⟨τ1, rfl, g2.wk rfl rfl, ?_⟩
    rw [List.length_eq_zero_iff.mp h0]
    exact hS1
  · rw [if_neg (nI_ne0 (by omega) (by omega))]
    obtain ⟨τ2, b1, b2, b3⟩ := begin_ok hI1 hn
    rw [hvN_fx g2 rfl] at b3
    have hF2 : Fx [8, 9, 10, 12, 13, 22] [(7, 4), (11, 5)] σ τ2 := (g2.wk rfl rfl).tr (b2.wk rfl rfl)
    have hI2 := HI.fx hF2 rfl hI
    have hB2 := BI.fx hF2 rfl rfl hB
    have hwl2 : WLi τ2 n N = WLi σ n N := wli_fx hF2 rfl n N
    have hH2 : hvN τ2 n = hvN σ n := hvN_fx hF2 rfl n
    have hG2 : GR τ2 (WLi τ2 n N) := by
      rw [hwl2]
      exact GR.fx b2 rfl ⟨g4, fun j e he => (g5 j e he).1⟩
    have hK2 : KF τ2 (WLi τ2 n N) (fun _ => false) := by
      rw [hwl2]
      exact KF.fx b2 rfl (fun j e he => by rw [(g5 j e he).2]; rfl)
    have hf0 : fit (hvN σ n) tk0 (fun _ => 0) = true := by
      unfold fit
      simp
    obtain ⟨τ3, c1, c2, c3, c4, c5⟩ := keepThose_ok (x := (fun _ => 0, fun _ => false)) (which := 2) hI2 hB2 hH2 hG2 hf0 b3 hK2 (by omega)
    rw [hwl2] at c3 c4 c5 hG2
    have hF3 := hF2.tr (c2.wk (l' := [8, 9, 10, 12, 13, 22]) (m' := [(7, 4), (11, 5)]) rfl rfl)
    have hwl3 : WLi τ3 n N = WLi σ n N := wli_fx hF3 rfl n N
    have hG3 := GR.fx c2 rfl hG2
    obtain ⟨τ4, d1, d2, d3, d4, d5⟩ := keepThose_ok (which := 1) (HI.fx hF3 rfl hI) (BI.fx hF3 rfl rfl hB) (hvN_fx hF3 rfl n) (by rw [hwl3]; exact hG3) c3 c4 (by rw [hwl3]; exact c5) (by omega)
    rw [hwl3] at d3 d4 d5
    have hF4 := hF3.tr (d2.wk (l' := [8, 9, 10, 12, 13, 22]) (m' := [(7, 4), (11, 5)]) rfl rfl)
    have hwl4 : WLi τ4 n N = WLi σ n N := wli_fx hF4 rfl n N
    have hG4 := GR.fx d2 rfl hG3
    obtain ⟨τ5, e1, e2, e3, e4, e5⟩ := keepThose_ok (which := 0) (HI.fx hF4 rfl hI) (BI.fx hF4 rfl rfl hB) (hvN_fx hF4 rfl n) (by rw [hwl4]; exact hG4) d3 d4 (by rw [hwl4]; exact d5) (by omega)
    rw [hwl4] at e3 e4 e5
    have hF5 := hF4.tr (e2.wk (l' := [8, 9, 10, 12, 13, 22]) (m' := [(7, 4), (11, 5)]) rfl rfl)
    have hwl5 : WLi τ5 n N = WLi σ n N := wli_fx hF5 rfl n N
    have hG5 := GR.fx e2 rfl hG4
    have hS5 : SR σ τ5 N n (fun _ => none) := SR.fx e2 rfl (SR.fx d2 rfl (SR.fx c2 rfl (SR.fx b2 rfl hS1)))
    have hO := wli_ok (n := n) hB
    have hwq5 : ∀ q, wq τ5 q = wq σ q := fun q => wq_fx hF5 rfl q
    have hgs := GI_start (H := hvN σ n) hO
    have hgs5 : GI (hvN σ n) (wq τ5) (keepAll (hvN σ n) (WLi σ n N)).2 ((tk0, (keepAll (hvN σ n) (WLi σ n N)).1), fun _ => none) := by
      rw [show wq τ5 = wq σ from funext hwq5]
      exact hgs
    obtain ⟨τ6, f1, f2, f3, f4⟩ := again_loop (σ0 := σ) (pv := pv) (WL := WLi σ n N) (HI.fx hF5 rfl hI) (BI.fx hF5 rfl rfl hB) hn (hvN_fx hF5 rfl n) hwl5.symm hP (hvS_fx hF5 rfl) hwq5 hG5 e5 hgs5 (fun _ => rfl) e4 hS5
    have hF6 := hF5.tr (f2.wk (l' := [8, 9, 10, 12, 13, 22]) (m' := [(7, 4), (11, 5)]) rfl rfl)
    have hwq6 : ∀ q, wq τ6 q = wq σ q := fun q => wq_fx hF6 rfl q
    have hga := (again_GI (pv := pv) hO hgs (fun _ => rfl) (WLi σ n N) [] (by simp)).1
    obtain ⟨τ7, h1, h2, h3, h4⟩ := first_loop (σ0 := σ) (WL := WLi σ n N) (HI.fx hF6 rfl hI) (BI.fx hF6 rfl rfl hB) hn (hvN_fx hF6 rfl n) (wli_fx hF6 rfl n N).symm (GR.fx f2 rfl hG5) (KF.fx f2 rfl e5) (by rw [show wq τ6 = wq σ from funext hwq6]; exact hga) f3 f4
    simp only [b1, Option.bind_some, show kP_keepThose τ2 2 = some ((), τ3) from c1, show kP_keepThose τ3 1 = some ((), τ4) from d1, show kP_keepThose τ4 0 = some ((), τ5) from e1, f1]
    unfold kP_makeNight_x89
    rw [h1]
    exact ⟨τ7, rfl, hF6.tr (h2.wk rfl rfl), h4⟩
