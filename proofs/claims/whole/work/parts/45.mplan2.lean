def MS (σ0 σ : Mem) (N n : Nat) (sp : Nat → Option Nat) : Prop := (∀ q, q < N → mI σ 49 0 (60 * q + n) = cd (sp q)) ∧ ∀ q k, k < 60 → k ≠ n → mI σ 49 0 (60 * q + k) = mI σ0 49 0 (60 * q + k)
theorem MS.fx {l : List Nat} {m : List (Nat × Nat)} {σ0 σ σ' : Mem} {N n : Nat} {sp : Nat → Option Nat} (h : Fx l m σ σ') (hn : nohit [49] l m = true) (hS : MS σ0 σ N n sp) : MS σ0 σ' N n sp :=
  ⟨fun q hq => by rw [h.hI hn 49 0 (60 * q + n)]; exact hS.1 q hq, fun q k hk hne => by rw [h.hI hn 49 0 (60 * q + k)]; exact hS.2 q k hk hne⟩
theorem MS.set {σ0 σ : Mem} {N n q : Nat} {sp : Nat → Option Nat} {o : Option Nat} (hn : n < 60) (h : MS σ0 σ N n sp) : MS σ0 (sI σ 49 0 (60 * q + n) (cd o)) N n (ups sp q o) := by
  refine ⟨fun q' hq' => ?_, fun q' k hk hne => by rw [mIsI, if_neg (by omega)]; exact h.2 q' k hk hne⟩
  rw [mIsI]
  unfold ups
  by_cases e : q' = q
  · rw [if_pos ⟨rfl, rfl, by rw [e]⟩, if_pos e]
  · rw [if_neg (by omega), if_neg e]
    exact h.1 q' hq'
def MG (σ : Mem) (N : Nat) (sp : Nat → Option Nat) : Prop := ∀ q, q < N → mI σ 56 0 q = if (sp q).isSome = true then 1 else 0
theorem MG.fx {l : List Nat} {m : List (Nat × Nat)} {σ σ' : Mem} {N : Nat} {sp : Nat → Option Nat} (h : Fx l m σ σ') (hn : nohit [56] l m = true) (hS : MG σ N sp) : MG σ' N sp := fun q hq => by rw [h.hI hn 56 0 q]; exact hS q hq
theorem MG.set {σ : Mem} {N q s : Nat} {sp : Nat → Option Nat} (h : MG σ N sp) : MG (sI σ 56 0 q 1) N (ups sp q (some s)) := fun q' hq' => by
  rw [mIsI]
  unfold ups
  by_cases e : q' = q
  · rw [if_pos ⟨rfl, rfl, e⟩]; simp [e]
  · rw [if_neg (fun z => e z.2.2)]
    simp only [e, if_false]
    exact h q' hq'
def PVm (σ : Mem) (N n : Nat) (pv : Nat → Option Nat) : Prop := ∀ q, q < N → (n = 0 → pv q = none) ∧ (1 ≤ n → mI σ 49 0 (60 * q + (n - 1)) = cd (pv q)) ∧ ∀ s, pv q = some s → s < 512 ∧ s % 4 ≤ 1
theorem wli_split {σ : Mem} {n i : Nat} : ∀ {N : Nat}, i ≤ N → ∃ R, WLi σ n N = WLi σ n i ++ R := by
  intro N h
  induction N with
  | zero =>
    obtain rfl : i = 0 := by omega
    exact ⟨[], by simp⟩
  | succ N ih =>
    by_cases e : i = N + 1
    · exact ⟨[], by rw [e]; simp⟩
    · obtain ⟨R, hR⟩ := ih (by omega)
      exact ⟨R ++ (if wnt σ N n = true then [pe σ N] else []), by
        show WLi σ n N ++ _ = _
        rw [hR, List.append_assoc]⟩
theorem ixq {q n : Nat} : (60 * nI q) + nI n = nI (60 * q + n) := by
  rw [show (60 : Int32) = nI 60 from rfl, pk_mul, nI_add]
theorem magain_loop {σ σ0 : Mem} {H : HV} {N n : Nat} {kp : Nat → Bool} {pv : Nat → Option Nat} {x0 : ST} (hI : HI σ) (hB : BI σ N) (hn : n < 60) (hH : hvN σ n = H) (hP : PVm σ0 N n pv) (hK : MK σ N kp) (hkp : ∀ q, kp q = true → ∃ e ∈ WLi σ n N, e.1 = q) (hgi : GI H (wq σ) kp x0) (hx0 : ∀ q, x0.2 q = none) (hM : MR σ n x0.1.1) (hD : DU σ x0.1.2) (hS : MS σ0 σ N n x0.2) (hGv : MG σ N x0.2) :
    ∃ τ, loopF FU (kM_plan_s87 (nI n)) (0, σ) = some τ ∧ Fx [49, 51, 53, 54, 56] [] σ τ ∧ MR τ n ((WLi σ n N).foldl (againStep H pv kp) x0).1.1 ∧ DU τ ((WLi σ n N).foldl (againStep H pv kp) x0).1.2 ∧ MS σ0 τ N n ((WLi σ n N).foldl (againStep H pv kp) x0).2 ∧ MG τ N ((WLi σ n N).foldl (againStep H pv kp) x0).2 := by
  have hN := hB.1
  have hO := wli_ok (n := n) hB
  by_cases h0 : n = 0
  · subst h0
    have hid : (WLi σ 0 N).foldl (againStep H pv kp) x0 = x0 := by
      have := foldl_inv0 (againStep H pv kp) (fun _ x => x = x0) (WLi σ 0 N) x0 rfl (fun p a x hp hx => by
        obtain ⟨post, hpost⟩ := hp
        have ha : a ∈ WLi σ 0 N := by rw [hpost]; simp
        rw [hx, again_none]
        intro s hs
        rw [(hP a.1 (wli_mem ha).1).1 rfl] at hs
        cases hs)
      exact this
    rw [hid]
    refine ⟨σ, ?_, Fx.rf, hM, hD, hS, hGv⟩
    show loopF (999 + 1) (kM_plan_s87 (nI 0)) (0, σ) = some σ
    unfold loopF
    simp only [kM_plan_s87, show nI 0 ≤ 0 by decide, if_true]
    by_cases e : mI σ 30 0 20 ≤ 0
    · rw [if_pos e]
    · rw [if_neg e]
  · obtain ⟨n', rfl⟩ : ∃ n', n = n' + 1 := ⟨n - 1, by omega⟩
    refine lp_inv (f := kM_plan_s87 (nI (n' + 1))) (fun i s => ∃ τ, s = (nI i, τ) ∧ Fx [49, 51, 53, 54, 56] [] σ τ ∧ MR τ (n' + 1) ((WLi σ (n' + 1) i).foldl (againStep H pv kp) x0).1.1 ∧ DU τ ((WLi σ (n' + 1) i).foldl (againStep H pv kp) x0).1.2 ∧ MS σ0 τ N (n' + 1) ((WLi σ (n' + 1) i).foldl (againStep H pv kp) x0).2 ∧ MG τ N ((WLi σ (n' + 1) i).foldl (againStep H pv kp) x0).2) _ N (by omega) (fun i s hi hs => ?_) (fun s hs => ?_) ⟨σ, rfl, Fx.rf, hM, hD, hS, hGv⟩
    · obtain ⟨τ, rfl, a1, a2, a3, a4, a5⟩ := hs
      refine Or.inl ?_
      have hIt := HI.fx a1 rfl hI
      have hBt := BI.fx a1 rfl rfl hB
      have hKt := MK.fx a1 rfl hK
      obtain ⟨R, hR⟩ := wli_split (σ := σ) (n := n' + 1) (i := i) (N := N) (by omega)
      obtain ⟨gi, hpre⟩ := again_GI (pv := pv) hO hgi hx0 _ R hR
      obtain ⟨x, hx⟩ : ∃ x, x = (WLi σ (n' + 1) i).foldl (againStep H pv kp) x0 := ⟨_, rfl⟩
      rw [← hx] at a2 a3 a4 a5 gi hpre
      have hadd : wnt σ i (n' + 1) = true → (WLi σ (n' + 1) (i + 1)).foldl (againStep H pv kp) x0 = againStep H pv kp x (pe σ i) := fun h => by
        show (WLi σ (n' + 1) i ++ _).foldl (againStep H pv kp) x0 = _
        rw [if_pos h, List.foldl_append, ← hx]
        rfl
      have hsame : (wnt σ i (n' + 1) = true → againStep H pv kp x (pe σ i) = x) → (WLi σ (n' + 1) (i + 1)).foldl (againStep H pv kp) x0 = x := fun h => by
        by_cases hw : wnt σ i (n' + 1) = true
        · rw [hadd hw]; exact h hw
        · show (WLi σ (n' + 1) i ++ _).foldl (againStep H pv kp) x0 = _
          rw [if_neg hw, List.append_nil, ← hx]
      have hno : x.2 i = none := by
        cases e3 : x.2 i with
        | none => rfl
        | some s =>
          obtain ⟨e', b, c⟩ := hpre i (by rw [e3]; simp)
          have := (wli_mem b).1
          omega
      have hwt : wq τ i = wq σ i := wq_fx a1 rfl i
      have hix : nI (60 * i + (n' + 1)) - 1 = nI (60 * i + n') := nI_pred (60 * i + n')
      have hpv := hP i hi
      have e49 : mI τ 49 0 (60 * i + n') = cd (pv i) := by
        rw [a4.2 i n' (by omega) (by omega)]
        exact hpv.2.1 (by omega)
      have hpos : ¬ nI (n' + 1) ≤ 0 := nI_nle (by omega) (by omega)
      simp only [kM_plan_s87, hBt.2.2.1, nge hi (by omega), if_false, hpos, hix, inr_ (show 60 * i + n' < 2400 by omega), inr_ (show i < 40 by omega), if_true, ix_ (show i < 2 ^ 31 by omega), ix_ (show 60 * i + n' < 2 ^ 31 by omega), hKt i hi, e49, ixq, inr_ (show 60 * i + (n' + 1) < 2400 by omega), ix_ (show 60 * i + (n' + 1) < 2 ^ 31 by omega), zn1]
      by_cases c1 : kp i = true
      · rw [if_pos c1, if_neg (by decide)]
        obtain ⟨e', he', hei⟩ := hkp i c1
        have hwn : wnt σ i (n' + 1) = true := by rw [← hei]; exact (wli_mem he').2.2
        rw [hadd hwn]
        cases c2 : pv i with
        | none =>
          rw [show cd none = -1 from rfl, if_pos rfl, again_none (fun s hs => by rw [show (pe σ i).1 = i from rfl, c2] at hs; cases hs)]
          exact ⟨_, rfl, τ, by rw [nI_1], a1, a2, a3, a4, a5⟩
        | some s =>
          obtain ⟨s1, s2⟩ := hpv.2.2 s c2
          rw [show cd (some s) = nI s from rfl, if_neg (nm512 s s1)]
          have hneed := GI_need gi (show i < 40 by omega) c1 hno
          obtain ⟨r, τ1, t1, t2, t3⟩ := gives_ok (H := H) (q := i) (s := s) hIt hBt (by rw [hvN_fx a1 rfl]; exact hH) a2 a3 (fun w hw => Nat.le_succ_of_le (fit_bd (fun k => FK_le) FS_le gi.1 w hw)) hi (by rw [hwt]; exact hneed) s1 s2
          rw [t1]
          simp only [Option.bind_some]
          rw [hwt] at t3
          rcases t3 with ⟨rfl, y, g1, g2, g3⟩ | ⟨rfl, g1, g2, g3⟩
          · rw [if_neg (by decide), again_some (e := pe σ i) c1 c2 g1]
            refine ⟨_, rfl, _, by rw [nI_1], ((a1.tr (t2.wk rfl rfl)).sI).sI, MR.fx ((Fx.rf.sI (l := [49, 56]) (m := [])).sI) rfl rfl g2, DU.fx ((Fx.rf.sI (l := [49, 56]) (m := [])).sI) rfl g3, ?_, ?_⟩
            · exact (MS.fx (t2.wk (l' := [51, 53, 54, 56]) (m' := []) rfl rfl |>.sI) rfl a4).set (q := i) (o := some s) hn
            · exact MG.fx (Fx.rf.sI (l := [49]) (m := [])) rfl ((MG.fx t2 rfl a5).set (q := i) (s := s))
          · rw [if_pos rfl, again_none (fun s' hs' => by rw [show (pe σ i).1 = i from rfl, c2] at hs'; cases hs'; exact g1)]
            exact ⟨_, rfl, τ1, by rw [nI_1], a1.tr (t2.wk rfl rfl), g2, g3, MS.fx t2 rfl a4, MG.fx t2 rfl a5⟩
      · rw [if_neg c1, if_pos rfl, hsame (fun _ => again_skip c1)]
        exact ⟨_, rfl, τ, by rw [nI_1], a1, a2, a3, a4, a5⟩
    · obtain ⟨τ, rfl, a1, a2⟩ := hs
      have hBt := BI.fx a1 rfl rfl hB
      exact ⟨τ, by simp only [kM_plan_s87, hBt.2.2.1, nle (Nat.le_refl N) (by omega), if_true], a1, a2⟩
theorem mfirst_in {σ σ0 : Mem} {H : HV} {N n q : Nat} {kp : Nat → Bool} {x : ST} (hI : HI σ) (hB : BI σ N) (hn : n < 60) (hH : hvN σ n = H) (hK : MK σ N kp) (hgi : GI H (wq σ) kp x) (hM : MR σ n x.1.1) (hD : DU σ x.1.2) (hS : MS σ0 σ N n x.2) (hGv : MG σ N x.2) (hq : q < N) (hk : kp q = true) (hno : x.2 q = none) :
    ∃ τ, loopF FU (kM_plan_s176 (nI n) (nI q)) (0, σ) = some τ ∧ Fx [49, 51, 53, 54, 56] [] σ τ ∧ MR τ n (firstStep H kp x (pe σ q)).1.1 ∧ DU τ (firstStep H kp x (pe σ q)).1.2 ∧ MS σ0 τ N n (firstStep H kp x (pe σ q)).2 ∧ MG τ N (firstStep H kp x (pe σ q)).2 := by
  have hN := hB.1
  have hneed := GI_need hgi (show q < 40 by omega) hk hno
  have hbd : ∀ w, w < 5 → x.1.2 w ≤ 300 := fun w hw => Nat.le_succ_of_le (fit_bd (fun k => FK_le) FS_le hgi.1 w hw)
  refine lp_inv (f := kM_plan_s176 (nI n) (nI q)) (fun i s => ∃ τ, s = (nI i, τ) ∧ Fx [49, 51, 53, 54, 56] [] σ τ ∧ ((MR τ n x.1.1 ∧ DU τ x.1.2 ∧ MS σ0 τ N n x.2 ∧ MG τ N x.2 ∧ ∀ s', s' < i → give H (wq σ q) s' x.1 = none) ∨ (mI τ 56 0 q = 1 ∧ MR τ n (firstStep H kp x (pe σ q)).1.1 ∧ DU τ (firstStep H kp x (pe σ q)).1.2 ∧ MS σ0 τ N n (firstStep H kp x (pe σ q)).2 ∧ MG τ N (firstStep H kp x (pe σ q)).2))) _ 512 (by omega) (fun i s hi hs => ?_) (fun s hs => ?_) ⟨σ, rfl, Fx.rf, Or.inl ⟨hM, hD, hS, hGv, fun s' hs' => by omega⟩⟩
  · obtain ⟨τ, rfl, a1, a2⟩ := hs
    have hIt := HI.fx a1 rfl hI
    have hBt := BI.fx a1 rfl rfl hB
    have hKt := MK.fx a1 rfl hK
    have hwt : wq τ q = wq σ q := wq_fx a1 rfl q
    have d3 : nI i - nI i / 4 * 4 = nI (i % 4) := pk_rem (d := 4) (by omega) (by omega) (by decide)
    rcases a2 with ⟨b1, b2, b3, b4, b5⟩ | ⟨b0, b1⟩
    · have h56 : mI τ 56 0 q = 0 := by rw [b4 q hq, hno]; rfl
      simp only [kM_plan_s176, show ¬ (512 : Int32) ≤ nI i from nge hi, if_false, inr_ (show q < 40 by omega), if_true, ix_ (show q < 2 ^ 31 by omega), hKt q hq, hk, show ¬ ((1 : Int32) = 0) by decide, h56, d3]
      refine Or.inl ?_
      by_cases c1 : 1 < i % 4
      · rw [if_pos (show (1 : Int32) < nI (i % 4) from nI_lt (a := 1) c1 (by omega))]
        refine ⟨_, rfl, τ, by rw [nI_1], a1, Or.inl ⟨b1, b2, b3, b4, fun s' hs' => ?_⟩⟩
        by_cases e : s' = i
        · refine give_nos (fun z => ?_)
          have := (suS_iff.mp z).2.2.1
          rw [e] at this
          omega
        · exact b5 s' (by omega)
      · rw [if_neg (show ¬ (1 : Int32) < nI (i % 4) from nI_nlt (a := 1) (by omega) (by decide))]
        obtain ⟨r, τ1, t1, t2, t3⟩ := gives_ok (H := H) (q := q) (s := i) hIt hBt (by rw [hvN_fx a1 rfl]; exact hH) b1 b2 hbd hq (by rw [hwt]; exact hneed) hi (by omega)
        rw [t1]
        simp only [Option.bind_some]
        rw [hwt] at t3
        rcases t3 with ⟨rfl, y, g1, g2, g3⟩ | ⟨rfl, g1, g2, g3⟩
        · rw [if_neg (by decide)]
          simp only [ixq, inr_ (show 60 * q + n < 2400 by omega), if_true, ix_ (show 60 * q + n < 2 ^ 31 by omega), zn1, nI_1]
          have hfs : firstStep H kp x (pe σ q) = (y, ups x.2 q (some i)) := first_some (e := pe σ q) hk hno (fst_yes hi (by rw [show (pe σ q).2.1 = wq σ q from rfl, show x.1 = (x.1.1, x.1.2) from rfl, g1]; rfl) b5) g1
          rw [hfs]
          refine ⟨_, rfl, _, rfl, ((a1.tr (t2.wk rfl rfl)).sI).sI, Or.inr ⟨by rw [mIsI, if_neg (by omega), mIsI, if_pos ⟨rfl, rfl, rfl⟩], MR.fx ((Fx.rf.sI (l := [49, 56]) (m := [])).sI) rfl rfl g2, DU.fx ((Fx.rf.sI (l := [49, 56]) (m := [])).sI) rfl g3, ?_, ?_⟩⟩
          · exact (MS.fx (t2.wk (l' := [51, 53, 54, 56]) (m' := []) rfl rfl |>.sI) rfl b3).set (q := q) (o := some i) hn
          · exact MG.fx (Fx.rf.sI (l := [49]) (m := [])) rfl ((MG.fx t2 rfl b4).set (q := q) (s := i))
        · rw [if_pos rfl]
          refine ⟨_, rfl, τ1, by rw [nI_1], a1.tr (t2.wk rfl rfl), Or.inl ⟨g2, g3, MS.fx t2 rfl b3, MG.fx t2 rfl b4, fun s' hs' => ?_⟩⟩
          by_cases e : s' = i
          · rw [e]; exact g1
          · exact b5 s' (by omega)
    · simp only [kM_plan_s176, show ¬ (512 : Int32) ≤ nI i from nge hi, if_false, inr_ (show q < 40 by omega), if_true, ix_ (show q < 2 ^ 31 by omega), hKt q hq, hk, show ¬ ((1 : Int32) = 0) by decide, b0]
      exact Or.inr ⟨τ, rfl, a1, b1⟩
  · obtain ⟨τ, rfl, a1, a2⟩ := hs
    refine ⟨τ, by simp only [kM_plan_s176, show (512 : Int32) ≤ nI 512 from nle (Nat.le_refl 512), if_true], a1, ?_⟩
    rcases a2 with ⟨b1, b2, b3, b4, b5⟩ | ⟨b0, b1⟩
    · rw [first_none (e := pe σ q) (fst_no b5)]
      exact ⟨b1, b2, b3, b4⟩
    · exact b1
theorem mfirst_loop {σ σ0 : Mem} {H : HV} {N n : Nat} {kp : Nat → Bool} {x0 : ST} (hI : HI σ) (hB : BI σ N) (hn : n < 60) (hH : hvN σ n = H) (hK : MK σ N kp) (hkp : ∀ q, kp q = true → ∃ e ∈ WLi σ n N, e.1 = q) (hgi : GI H (wq σ) kp x0) (hM : MR σ n x0.1.1) (hD : DU σ x0.1.2) (hS : MS σ0 σ N n x0.2) (hGv : MG σ N x0.2) :
    ∃ τ, loopF FU (kM_plan_s166 (nI n)) (0, σ) = some τ ∧ Fx [49, 51, 53, 54, 56] [] σ τ ∧ MS σ0 τ N n ((WLi σ n N).foldl (firstStep H kp) x0).2 := by
  have hN := hB.1
  have hW : WH H := by rw [← hH]; exact WHN hI
  have hO := wli_ok (n := n) hB
  refine lp_inv (f := kM_plan_s166 (nI n)) (fun i s => ∃ τ, s = (nI i, τ) ∧ Fx [49, 51, 53, 54, 56] [] σ τ ∧ MR τ n ((WLi σ n i).foldl (firstStep H kp) x0).1.1 ∧ DU τ ((WLi σ n i).foldl (firstStep H kp) x0).1.2 ∧ MS σ0 τ N n ((WLi σ n i).foldl (firstStep H kp) x0).2 ∧ MG τ N ((WLi σ n i).foldl (firstStep H kp) x0).2) _ N (by omega) (fun i s hi hs => ?_) (fun s hs => ?_) ⟨σ, rfl, Fx.rf, hM, hD, hS, hGv⟩
  · obtain ⟨τ, rfl, a1, a2, a3, a4, a5⟩ := hs
    refine Or.inl ?_
    have hIt := HI.fx a1 rfl hI
    have hBt := BI.fx a1 rfl rfl hB
    have hKt := MK.fx a1 rfl hK
    obtain ⟨R, hR⟩ := wli_split (σ := σ) (n := n) (i := i) (N := N) (by omega)
    obtain ⟨gi, -⟩ := first_GI hW hO hgi _ R hR
    obtain ⟨x, hx⟩ : ∃ x, x = (WLi σ n i).foldl (firstStep H kp) x0 := ⟨_, rfl⟩
    rw [← hx] at a2 a3 a4 a5 gi
    have hadd : wnt σ i n = true → (WLi σ n (i + 1)).foldl (firstStep H kp) x0 = firstStep H kp x (pe σ i) := fun h => by
      show (WLi σ n i ++ _).foldl (firstStep H kp) x0 = _
      rw [if_pos h, List.foldl_append, ← hx]
      rfl
    have hsame : ¬ (kp i = true ∧ x.2 i = none) → (WLi σ n (i + 1)).foldl (firstStep H kp) x0 = x := fun h => by
      by_cases hw : wnt σ i n = true
      · rw [hadd hw]; exact first_skip h
      · show (WLi σ n i ++ _).foldl (firstStep H kp) x0 = _
        rw [if_neg hw, List.append_nil, ← hx]
    have hpe : pe τ i = pe σ i := by
      unfold pe
      rw [wq_fx a1 rfl, a1.I 40 0 i]
    simp only [kM_plan_s166, hBt.2.2.1, nge hi (by omega), if_false]
    by_cases c1 : kp i = true ∧ x.2 i = none
    · obtain ⟨e', he', hei⟩ := hkp i c1.1
      have hwn : wnt σ i n = true := by rw [← hei]; exact (wli_mem he').2.2
      obtain ⟨τ1, t1, t2, t3, t4, t5, t6⟩ := mfirst_in (H := H) (σ0 := σ0) hIt hBt hn (by rw [hvN_fx a1 rfl]; exact hH) hKt (by rw [show wq τ = wq σ from funext fun q => wq_fx a1 rfl q]; exact gi) a2 a3 a4 a5 hi c1.1 c1.2
      rw [t1, hadd hwn]
      rw [hpe] at t3 t4 t5 t6
      exact ⟨_, by simp only [Option.bind_some, kM_plan_x245]; rfl, τ1, by rw [nI_1], a1.tr t2, t3, t4, t5, t6⟩
    · have hend : loopF FU (kM_plan_s176 (nI n) (nI i)) (0, τ) = some τ := by
        show loopF (999 + 1) (kM_plan_s176 (nI n) (nI i)) (0, τ) = some τ
        unfold loopF
        simp only [kM_plan_s176, show ¬ (512 : Int32) ≤ 0 by decide, if_false, inr_ (show i < 40 by omega), if_true, ix_ (show i < 2 ^ 31 by omega), hKt i hi, a5 i hi]
        by_cases k : kp i = true
        · have : x.2 i ≠ none := fun z => c1 ⟨k, z⟩
          cases e : x.2 i with
          | none => exact absurd e this
          | some s => simp [k]
        · simp [k]
      rw [hend, hsame c1]
      exact ⟨_, by simp only [Option.bind_some, kM_plan_x245]; rfl, τ, by rw [nI_1], a1, a2, a3, a4, a5⟩
  · obtain ⟨τ, rfl, a1, a2, a3, a4, a5⟩ := hs
    have hBt := BI.fx a1 rfl rfl hB
    exact ⟨τ, by simp only [kM_plan_s166, hBt.2.2.1, nle (Nat.le_refl N) (by omega), if_true], a1, a4⟩
theorem plan_ok {σ : Mem} {N n : Nat} {pv : Nat → Option Nat} (hI : HI σ) (hB : BI σ N) (hn : n < 60) (hP : PVm σ N n pv) : ∃ σ', kM_plan σ (nI n) = some ((), σ') ∧ Fx [49, 51, 53, 54, 55, 56] [(30, 22)] σ σ' ∧ MS σ σ' N n (pnight (hvN σ n) (WLi σ n N) pv).2 ∧ MK σ' N (keepAll (hvN σ n) (WLi σ n N)).2 := by
  have hN := hB.1
  unfold kM_plan
  obtain ⟨τ1, a1, a2, a3, a4, a5⟩ := lp_inv (f := kM_plan_s2 (nI n)) (fun i s => ∃ τ, s = (nI i, τ) ∧ Fx [49, 55, 56] [] σ τ ∧ MS σ τ i n (fun _ => none) ∧ (∀ q, q < i → mI τ 55 0 q = 0) ∧ ∀ q, q < i → mI τ 56 0 q = 0)
    (fun τ => Fx [49, 55, 56] [] σ τ ∧ MS σ τ N n (fun _ => none) ∧ (∀ q, q < N → mI τ 55 0 q = 0) ∧ ∀ q, q < N → mI τ 56 0 q = 0) N (by omega) (fun i s hi hs => by
    obtain ⟨τ, rfl, b1, b2, b3, b4⟩ := hs
    have hBt := BI.fx b1 rfl rfl hB
    refine Or.inl ?_
    simp only [kM_plan_s2, hBt.2.2.1, nge hi (by omega), if_false, inr_ (show i < 40 by omega), if_true, ix_ (show i < 2 ^ 31 by omega), ixq, inr_ (show 60 * i + n < 2400 by omega), ix_ (show 60 * i + n < 2 ^ 31 by omega), zn0, nI_1]
    refine ⟨_, rfl, _, rfl, ((b1.sI).sI).sI, ⟨fun q hq => ?_, fun q k hk hne => ?_⟩, fun q hq => ?_, fun q hq => ?_⟩
    · rw [mIsI]
      by_cases e : q = i
      · rw [if_pos ⟨rfl, rfl, by rw [e]⟩]; rfl
      · rw [if_neg (by omega), mIsI, if_neg (by omega), mIsI, if_neg (by omega)]
        exact b2.1 q (by omega)
    · rw [mIsI, if_neg (by omega), mIsI, if_neg (by omega), mIsI, if_neg (by omega)]
      exact b2.2 q k hk hne
    · rw [mIsI, if_neg (by omega), mIsI, if_neg (by omega), mIsI]
      by_cases e : q = i
      · rw [if_pos ⟨rfl, rfl, e⟩]
      · rw [if_neg (fun z => e z.2.2)]
        exact b3 q (by omega)
    · rw [mIsI, if_neg (by omega), mIsI]
      by_cases e : q = i
      · rw [if_pos ⟨rfl, rfl, e⟩]
      · rw [if_neg (fun z => e z.2.2), mIsI, if_neg (by omega)]
        exact b4 q (by omega)) (fun s hs => by
    obtain ⟨τ, rfl, b1, b2⟩ := hs
    have hBt := BI.fx b1 rfl rfl hB
    exact ⟨τ, by simp only [kM_plan_s2, hBt.2.2.1, nle (Nat.le_refl N) (by omega), if_true], b1, b2⟩) (s := (0, σ)) ⟨σ, rfl, Fx.rf, ⟨fun q hq => by omega, fun q k _ _ => rfl⟩, fun q hq => by omega, fun q hq => by omega⟩
  rw [a1]
  simp only [Option.bind_some]
  unfold kM_plan_x42
  obtain ⟨τ2, c1, c2, c3⟩ := lp_inv (f := kM_plan_s44 (nI n)) (fun i s => ∃ τ, s = (nI i, τ) ∧ Fx [53] [] τ1 τ ∧ ∀ w, w < i → mI τ 53 0 w = 0) (fun τ => Fx [53] [] τ1 τ ∧ ∀ w, w < 5 → mI τ 53 0 w = 0) 5 (by omega) (fun i s hi hs => by
    obtain ⟨τ, rfl, b1, b2⟩ := hs
    refine Or.inl ?_
    simp only [kM_plan_s44, show ¬ (5 : Int32) ≤ nI i from nge hi, if_false, inr_ hi, if_true, ix_ (show i < 2 ^ 31 by omega), nI_1]
    refine ⟨_, rfl, _, rfl, b1.sI, fun w hw => ?_⟩
    rw [mIsI]
    by_cases e : w = i
    · rw [if_pos ⟨rfl, rfl, e⟩]
    · rw [if_neg (fun z => e z.2.2)]
      exact b2 w (by omega)) (fun s hs => by
    obtain ⟨τ, rfl, a⟩ := hs
    exact ⟨τ, by simp only [kM_plan_s44, show (5 : Int32) ≤ nI 5 from nle (Nat.le_refl 5), if_true], a⟩) (s := (0, τ1)) ⟨τ1, rfl, Fx.rf, fun p hp => by omega⟩
  rw [c1]
  simp only [Option.bind_some]
  unfold kM_plan_x62
  obtain ⟨τ3, d1, d2, d3⟩ := fresh_ok (σ := τ2) (n := n)
  rw [d1]
  simp only [Option.bind_some]
  have hF3 : Fx [49, 51, 53, 54, 55, 56] [(30, 22)] σ τ3 := ((a2.wk rfl rfl).tr (c2.wk rfl rfl)).tr (d2.wk rfl rfl)
  have hf0 : fit (hvN σ n) tk0 (fun _ => 0) = true := by
    unfold fit
    simp
  have hD3 : DU τ3 (fun _ => 0) := DU.fx d2 rfl (fun w hw => c3 w hw)
  have hK3 : MK τ3 N (fun _ => false) := MK.fx d2 rfl (MK.fx c2 rfl (fun q hq => by rw [a4 q hq]; rfl))
  have hS3 : MS σ τ3 N n (fun _ => none) := MS.fx d2 rfl (MS.fx c2 rfl a3)
  have hG3 : MG τ3 N (fun _ => none) := MG.fx d2 rfl (MG.fx c2 rfl (fun q hq => by rw [a5 q hq]; rfl))
  have hwl3 : WLi τ3 n N = WLi σ n N := wli_fx hF3 rfl n N
  obtain ⟨τ4, e1, e2, e3, e4, e5⟩ := mkeep_ok (x := (fun _ => 0, fun _ => false)) (which := 2) (HI.fx hF3 rfl hI) (BI.fx hF3 rfl rfl hB) (hvN_fx hF3 rfl n) d3 hf0 hD3 hK3 (by omega)
  rw [hwl3] at e3 e4 e5
  have hF4 := hF3.tr (e2.wk (l' := [49, 51, 53, 54, 55, 56]) (m' := [(30, 22)]) rfl rfl)
  have hwl4 : WLi τ4 n N = WLi σ n N := wli_fx hF4 rfl n N
  have hM4 := MR.fx e2 rfl rfl d3
  obtain ⟨τ5, f1, f2, f3, f4, f5⟩ := mkeep_ok (which := 1) (HI.fx hF4 rfl hI) (BI.fx hF4 rfl rfl hB) (hvN_fx hF4 rfl n) hM4 e3 e4 e5 (by omega)
  rw [hwl4] at f3 f4 f5
  have hF5 := hF4.tr (f2.wk (l' := [49, 51, 53, 54, 55, 56]) (m' := [(30, 22)]) rfl rfl)
  have hwl5 : WLi τ5 n N = WLi σ n N := wli_fx hF5 rfl n N
  have hM5 := MR.fx f2 rfl rfl hM4
  obtain ⟨τ6, g1, g2, g3, g4, g5⟩ := mkeep_ok (which := 0) (HI.fx hF5 rfl hI) (BI.fx hF5 rfl rfl hB) (hvN_fx hF5 rfl n) hM5 f3 f4 f5 (by omega)
  rw [hwl5] at g3 g4 g5
  have hF6 := hF5.tr (g2.wk (l' := [49, 51, 53, 54, 55, 56]) (m' := [(30, 22)]) rfl rfl)
  have hwl6 : WLi τ6 n N = WLi σ n N := wli_fx hF6 rfl n N
  have hM6 := MR.fx g2 rfl rfl hM5
  have hS6 : MS σ τ6 N n (fun _ => none) := MS.fx g2 rfl (MS.fx f2 rfl (MS.fx e2 rfl hS3))
  have hG6 : MG τ6 N (fun _ => none) := MG.fx g2 rfl (MG.fx f2 rfl (MG.fx e2 rfl hG3))
  have hO := wli_ok (n := n) hB
  have hgs := GI_start (H := hvN σ n) hO
  have hwq6 : wq τ6 = wq σ := funext fun q => wq_fx hF6 rfl q
  have hkp := (keepAll_ok (H := hvN σ n) hO).2.2
  obtain ⟨τ7, h1, h2, h3, h4, h5, h6⟩ := magain_loop (σ0 := σ) (pv := pv) (x0 := ((tk0, (keepAll (hvN σ n) (WLi σ n N)).1), fun _ => none)) (HI.fx hF6 rfl hI) (BI.fx hF6 rfl rfl hB) hn (hvN_fx hF6 rfl n) hP g5 (by rw [hwl6]; exact hkp) (by rw [hwq6]; exact hgs) (fun _ => rfl) hM6 g4 hS6 hG6
  rw [hwl6] at h3 h4 h5 h6
  have hF7 := hF6.tr (h2.wk (l' := [49, 51, 53, 54, 55, 56]) (m' := [(30, 22)]) rfl rfl)
  have hwl7 : WLi τ7 n N = WLi σ n N := wli_fx hF7 rfl n N
  have hwq7 : wq τ7 = wq σ := funext fun q => wq_fx hF7 rfl q
  have hga := (again_GI (pv := pv) hO hgs (fun _ => rfl) (WLi σ n N) [] (by simp)).1
  have hK7 := MK.fx h2 rfl g5
  obtain ⟨τ8, k1, k2, k3⟩ := mfirst_loop (σ0 := σ) (HI.fx hF7 rfl hI) (BI.fx hF7 rfl rfl hB) hn (hvN_fx hF7 rfl n) hK7 (by rw [hwl7]; exact hkp) (by rw [hwq7]; exact hga) h3 h4 h5 h6
  rw [hwl7] at k3
  simp only [show kM_keep τ3 (nI n) 2 = some ((), τ4) from e1, show kM_keep τ4 (nI n) 1 = some ((), τ5) from f1, show kM_keep τ5 (nI n) 0 = some ((), τ6) from g1, Option.bind_some, h1]
  unfold kM_plan_x164
  rw [k1]
  exact ⟨τ8, rfl, hF7.tr (k2.wk rfl rfl), k3, MK.fx k2 rfl hK7⟩
