/-! the plan over the nights -/
def dc (x : Int32) : Option Nat := if x = -1 then none else some (ix x)
def hist (σ : Mem) (N n q : Nat) : Option Nat := if q < N then dc (mI σ 49 0 (60 * q + n)) else none
def PS (σ : Mem) (N d : Nat) : Nat → Nat → Option Nat
  | 0 => (pnight (hvN σ d) (WLi σ d N) (fun q => if d = 0 then none else hist σ N (d - 1) q)).2
  | k + 1 => (pnight (hvN σ (d + (k + 1))) (WLi σ (d + (k + 1)) N) (PS σ N d k)).2
/-- the spots of a night suit, and nobody has what another one has -/
def NV (σ : Mem) (N : Nat) (f : Nat → Option Nat) : Prop := (∀ q, q < N → ∀ s, f q = some s → suS (hvS σ) (wq σ q) s = true) ∧ ∀ q q' s s', q < N → q' < N → q ≠ q' → f q = some s → f q' = some s' → ∀ p b, ¬ (occ s p b ∧ occ s' p b)
def HS (σ : Mem) (N d : Nat) : Prop := ∀ n, n < d → NV σ N (hist σ N n) ∧ ∀ q, q < N → mI σ 49 0 (60 * q + n) = cd (hist σ N n q) ∧ mI σ 22 q n = mI σ 49 0 (60 * q + n)
def PI (σ : Mem) (N d P : Nat) : Prop := mI σ 1 0 7 = nI P ∧ d ≤ P ∧ P ≤ 60 ∧ ∀ n, d ≤ n → n < P → ∀ q, q < N → mI σ 22 q n = cd (PS σ N d (n - d) q)
theorem dc_cd {o : Option Nat} (h : ∀ s, o = some s → s < 512) : dc (cd o) = o := by
  cases o with
  | none => rfl
  | some s =>
    have := h s rfl
    unfold dc
    rw [show cd (some s) = nI s from rfl, if_neg (nm512 s this), ix_]
theorem pnight_NV {σ : Mem} {N n : Nat} {pv : Nat → Option Nat} (hI : HI σ) (hB : BI σ N) : NV σ N (pnight (hvN σ n) (WLi σ n N) pv).2 := by
  obtain ⟨⟨-, -, g3, g4⟩, -⟩ := pnight_ok (pv := pv) (WHN (n := n) hI) (wli_ok (n := n) hB)
  exact ⟨fun q _ s hs => suS_SN (g3 q s hs).1, fun q q' s s' _ _ hne h h' => g4 q q' s s' hne h h'⟩
theorem PS_NV {σ : Mem} {N d k : Nat} (hI : HI σ) (hB : BI σ N) : NV σ N (PS σ N d k) := by
  cases k with
  | zero => exact pnight_NV hI hB
  | succ k => exact pnight_NV hI hB
theorem PS_cong {σ σ' : Mem} {N N' d : Nat} : ∀ k, (∀ n, d ≤ n → n ≤ d + k → hvN σ' n = hvN σ n ∧ WLi σ' n N' = WLi σ n N) → (d ≠ 0 → ∀ q, hist σ' N' (d - 1) q = hist σ N (d - 1) q) → PS σ' N' d k = PS σ N d k
  | 0, h1, h2 => by
    unfold PS
    rw [(h1 d (by omega) (by omega)).1, (h1 d (by omega) (by omega)).2]
    have : (fun q => if d = 0 then none else hist σ' N' (d - 1) q) = (fun q => if d = 0 then none else hist σ N (d - 1) q) := funext fun q => by
      by_cases e : d = 0
      · rw [if_pos e, if_pos e]
      · rw [if_neg e, if_neg e, h2 e q]
    rw [this]
  | k + 1, h1, h2 => by
    unfold PS
    rw [PS_cong k (fun n a b => h1 n a (by omega)) h2, (h1 (d + (k + 1)) (by omega) (by omega)).1, (h1 (d + (k + 1)) (by omega) (by omega)).2]
/-- the spots of the night ahead of n -/
def pvN (σ : Mem) (N d n : Nat) : Nat → Option Nat := if n = d then (fun q => if d = 0 then none else hist σ N (d - 1) q) else PS σ N d (n - 1 - d)
theorem PS_step {σ : Mem} {N d n : Nat} (h : d ≤ n) : PS σ N d (n - d) = (pnight (hvN σ n) (WLi σ n N) (pvN σ N d n)).2 := by
  unfold pvN
  by_cases e : n = d
  · rw [if_pos e, e, Nat.sub_self]
    rfl
  · rw [if_neg e]
    obtain ⟨k, rfl⟩ : ∃ k, n = d + (k + 1) := ⟨n - d - 1, by omega⟩
    rw [show d + (k + 1) - d = k + 1 by omega, show d + (k + 1) - 1 - d = k by omega]
    rfl
theorem pvN_NV {σ : Mem} {N d n : Nat} (hI : HI σ) (hB : BI σ N) (hH : HS σ N d) (h : d ≤ n) : NV σ N (pvN σ N d n) := by
  unfold pvN
  by_cases e : n = d
  · rw [if_pos e]
    by_cases e0 : d = 0
    · simp only [e0, if_true]
      exact ⟨(fun q _ s (hs : (none : Option Nat) = some s) => by cases hs), (fun q q' s s' _ _ _ (hs : (none : Option Nat) = some s) => by cases hs)⟩
    · simp only [e0, if_false]
      exact (hH (d - 1) (by omega)).1
  · rw [if_neg e]
    exact PS_NV hI hB
def PT : List Nat := [49]
theorem PS_fx {l : List Nat} {m : List (Nat × Nat)} {σ σ' : Mem} {N d : Nat} (h : Fx l m σ σ') (h1 : nohit HT l m = true) (h2 : nohit BT l m = true) (h3 : nohit PT l m = true) (k : Nat) : PS σ' N d k = PS σ N d k :=
  PS_cong k (fun n _ _ => ⟨hvN_fx h h1 n, wli_fx h h2 n N⟩) (fun _ q => by unfold hist; rw [h.hI h3 49 0])
theorem hist_fx {l : List Nat} {m : List (Nat × Nat)} {σ σ' : Mem} (h : Fx l m σ σ') (h3 : nohit PT l m = true) (N n q : Nat) : hist σ' N n q = hist σ N n q := by
  unfold hist
  rw [h.hI h3 49 0]
theorem NV_eq {σ σ' : Mem} {N : Nat} {f : Nat → Option Nat} (h1 : hvS σ' = hvS σ) (h2 : ∀ q, q < N → wq σ' q = wq σ q) (h : NV σ N f) : NV σ' N f :=
  ⟨fun q hq s hs => by rw [h1, h2 q hq]; exact h.1 q hq s hs, h.2⟩
def UPF (σ σ' : Mem) : Prop := Fx [8, 9, 10, 12, 13, 22] [(7, 4), (11, 5), (1, 7)] σ σ'
theorem upTo_aux {σ : Mem} {N d P T : Nat} {x : Int32} (hI : HI σ) (hB : BI σ N) (hH : HS σ N d) (hP : PI σ N d P) (hT : T ≤ 60) (h1 : ∀ k, k < T → ¬ x < nI k) (h2 : ∀ k, T ≤ k → k ≤ 60 → x < nI k ∨ k = 60) :
    ∃ σ', kG_planUpTo σ x = some ((), σ') ∧ UPF σ σ' ∧ (∀ q n, n < d → mI σ' 22 q n = mI σ 22 q n) ∧ ∃ P', P ≤ P' ∧ T ≤ P' ∧ PI σ' N d P' := by
  obtain ⟨p1, p2, p3, p4⟩ := hP
  unfold kG_planUpTo
  rw [p1]
  obtain ⟨τ, l1, l2, l3, P', l4, l5, l6, l7⟩ := lp_inv (f := kG_planUpTo_s5 x) (fun i s => ∃ τ, s = (nI (P + i), τ) ∧ UPF σ τ ∧ (∀ q n, n < d → mI τ 22 q n = mI σ 22 q n) ∧ mI τ 1 0 7 = nI (P + i) ∧ ∀ n, d ≤ n → n < P + i → ∀ q, q < N → mI τ 22 q n = cd (PS σ N d (n - d) q))
    (fun τ => UPF σ τ ∧ (∀ q n, n < d → mI τ 22 q n = mI σ 22 q n) ∧ ∃ P', P ≤ P' ∧ (T ≤ P' ∧ P' ≤ 60) ∧ mI τ 1 0 7 = nI P' ∧ ∀ n, d ≤ n → n < P' → ∀ q, q < N → mI τ 22 q n = cd (PS σ N d (n - d) q)) (T - P) (by omega) (fun i s hi hs => by
    obtain ⟨τ, rfl, a1, a2, a3, a4⟩ := hs
    refine Or.inl ?_
    have hIt := HI.fx a1 rfl hI
    have hBt := BI.fx a1 rfl rfl hB
    have hHt : hvS τ = hvS σ := hvS_fx a1 rfl
    have hpv : PV τ N (P + i) (pvN σ N d (P + i)) := by
      have hnv := pvN_NV (n := P + i) hI hB hH (by omega)
      refine fun q hq => ⟨fun e0 => ?_, fun e1 => ?_, fun s hs => ?_⟩
      · unfold pvN
        rw [if_pos (by omega), if_pos (by omega)]
      · unfold pvN
        by_cases e : P + i = d
        · rw [if_pos e, if_neg (by omega), a2 q _ (by omega), show P + i - 1 = d - 1 by omega, ((hH (d - 1) (by omega)).2 q hq).2]
          exact ((hH (d - 1) (by omega)).2 q hq).1
        · rw [if_neg e, a4 (P + i - 1) (by omega) (by omega) q hq]
      · rw [hHt, wq_fx a1 rfl]
        exact hnv.1 q hq s hs
    obtain ⟨τ1, t1, t2, t3⟩ := makeNight_ok hIt hBt (show P + i < 60 by omega) hpv
    rw [hvN_fx a1 rfl, wli_fx a1 rfl, ← PS_step (by omega)] at t3
    have hlt := h1 (P + i) (by omega)
    simp only [kG_planUpTo_s5, hlt, if_false, show ¬ (60 : Int32) ≤ nI (P + i) from nge (show P + i < 60 by omega), t1, Option.bind_some, nI_1]
    refine ⟨_, rfl, _, rfl, Fx.sI (Fx.tr a1 (t2.wk rfl rfl)), fun q n hn => ?_, by rw [mIsI, if_pos ⟨rfl, rfl, rfl⟩]; rfl, fun n hn1 hn2 q hq => ?_⟩
    · rw [mIsI, if_neg (by omega), t3.2 q n (by omega)]
      exact a2 q n hn
    · rw [mIsI, if_neg (by omega)]
      by_cases e : n = P + i
      · rw [e]
        exact t3.1 q hq
      · rw [t3.2 q n e]
        exact a4 n hn1 (by omega) q hq) (fun s hs => by
    obtain ⟨τ, rfl, a1, a2, a3, a4⟩ := hs
    refine ⟨τ, ?_, a1, a2, P + (T - P), by omega, ⟨by omega, by omega⟩, a3, a4⟩
    rcases h2 (P + (T - P)) (by omega) (by omega) with e | e
    · simp only [kG_planUpTo_s5, e, if_true]
    · rw [e]
      simp only [kG_planUpTo_s5, show (60 : Int32) ≤ nI 60 from nle (Nat.le_refl 60), if_true]
      split <;> rfl) (s := (nI P, σ)) ⟨σ, rfl, Fx.rf, fun _ _ _ => rfl, p1, p4⟩
  rw [l1]
  refine ⟨τ, rfl, l2, l3, P', l4, l5.1, l6, by omega, l5.2, fun n hn1 hn2 q hq => ?_⟩
  rw [PS_fx l2 rfl rfl rfl]
  exact l7 n hn1 hn2 q hq
theorem upTo_ok {σ : Mem} {N d P : Nat} {x : Int32} (hI : HI σ) (hB : BI σ N) (hH : HS σ N d) (hP : PI σ N d P) :
    ∃ σ', kG_planUpTo σ x = some ((), σ') ∧ UPF σ σ' ∧ (∀ q n, n < d → mI σ' 22 q n = mI σ 22 q n) ∧ ∃ P', P ≤ P' ∧ PI σ' N d P' ∧ ∀ n, n < 60 → (x = nI n ∨ nI 60 ≤ x) → n < P' := by
  rcases i32 x 60 with h | h | ⟨j, hj, rfl⟩
  · obtain ⟨σ', a1, a2, a3, P', a4, a5, a6⟩ := upTo_aux (T := 0) (x := x) hI hB hH hP (by omega) (fun k hk => by omega) (fun k _ hk => Or.inl (Int32.lt_of_lt_of_le h (nI_pos' (by omega))))
    refine ⟨σ', a1, a2, a3, P', a4, a6, fun n hn e => ?_⟩
    rcases e with e | e
    · rw [e] at h; exact absurd h nn0
    · exact absurd (Int32.lt_of_lt_of_le h (nI_pos' (n := 60) (by omega))) (Int32.not_lt.mpr e)
  · obtain ⟨σ', a1, a2, a3, P', a4, a5, a6⟩ := upTo_aux (T := 60) (x := x) hI hB hH hP (by omega) (fun k hk => Int32.not_lt.mpr (Int32.le_trans (nle (show k ≤ 60 by omega)) h)) (fun k h1 h2 => Or.inr (by omega))
    exact ⟨σ', a1, a2, a3, P', a4, a6, fun n hn _ => by omega⟩
  · obtain ⟨σ', a1, a2, a3, P', a4, a5, a6⟩ := upTo_aux (T := j + 1) (x := nI j) hI hB hH hP (by omega) (fun k hk => nI_nlt (by omega) (by omega)) (fun k h1 h2 => Or.inl (nI_lt (by omega) (by omega)))
    refine ⟨σ', a1, a2, a3, P', a4, a6, fun n hn e => ?_⟩
    rcases e with e | e
    · have := (nI_eq (by omega) (by omega)).mp e
      omega
    · exact absurd e (nge hj)
/-! the same by the reference -/
def MPF (σ σ' : Mem) : Prop := Fx [49, 51, 53, 54, 55, 56] [(30, 22), (30, 0)] σ σ'
theorem plans_ok {σ : Mem} {N d : Nat} (hI : HI σ) (hB : BI σ N) (hd : d < 60) (hday : mI σ 30 0 8 = nI d) (hH : HS σ N d) :
    ∃ σ', kM_plans σ = some ((), σ') ∧ MPF σ σ' ∧ (∀ q n, n < d → mI σ' 49 0 (60 * q + n) = mI σ 49 0 (60 * q + n)) ∧ ∀ n, d ≤ n → n < 60 → ∀ q, q < N → mI σ' 49 0 (60 * q + n) = cd (PS σ N d (n - d) q) := by
  unfold kM_plans
  rw [hday]
  obtain ⟨τ, l1, l2, l3, l4⟩ := lp_inv (f := kM_plans_s5) (fun i s => ∃ τ, s = (nI (d + i), τ) ∧ MPF σ τ ∧ (∀ q n, n < d → mI τ 49 0 (60 * q + n) = mI σ 49 0 (60 * q + n)) ∧ ∀ n, d ≤ n → n < d + i → ∀ q, q < N → mI τ 49 0 (60 * q + n) = cd (PS σ N d (n - d) q))
    (fun τ => MPF σ τ ∧ (∀ q n, n < d → mI τ 49 0 (60 * q + n) = mI σ 49 0 (60 * q + n)) ∧ ∀ n, d ≤ n → n < 60 → ∀ q, q < N → mI τ 49 0 (60 * q + n) = cd (PS σ N d (n - d) q)) (60 - d) (by omega) (fun i s hi hs => by
    obtain ⟨τ, rfl, a1, a2, a3⟩ := hs
    refine Or.inl ?_
    have hIt := HI.fx a1 rfl hI
    have hBt := BI.fx a1 rfl rfl hB
    have hpv : PVm τ N (d + i) (pvN σ N d (d + i)) := by
      have hnv := pvN_NV (n := d + i) hI hB hH (by omega)
      refine fun q hq => ⟨fun e0 => ?_, fun e1 => ?_, fun s hs => ?_⟩
      · unfold pvN
        rw [if_pos (by omega), if_pos (by omega)]
      · unfold pvN
        by_cases e : d + i = d
        · rw [if_pos e, if_neg (by omega), a2 q _ (by omega), show d + i - 1 = d - 1 by omega]
          exact ((hH (d - 1) (by omega)).2 q hq).1
        · rw [if_neg e, a3 (d + i - 1) (by omega) (by omega) q hq]
      · have := suS_iff.mp (hnv.1 q hq s hs)
        exact ⟨this.2.1, this.2.2.1⟩
    obtain ⟨τ1, t1, t2, t3, -⟩ := plan_ok hIt hBt (show d + i < 60 by omega) hpv
    rw [hvN_fx a1 rfl, wli_fx a1 rfl, ← PS_step (by omega)] at t3
    simp only [kM_plans_s5, show ¬ (60 : Int32) ≤ nI (d + i) from nge (show d + i < 60 by omega), if_false, t1, Option.bind_some, nI_1]
    refine ⟨_, rfl, τ1, rfl, Fx.tr a1 (t2.wk rfl rfl), fun q n hn => ?_, fun n hn1 hn2 q hq => ?_⟩
    · rw [t3.2 q n (by omega) (by omega)]
      exact a2 q n hn
    · by_cases e : n = d + i
      · rw [e]
        exact t3.1 q hq
      · rw [t3.2 q n (by omega) e]
        exact a3 n hn1 (by omega) q hq) (fun s hs => by
    obtain ⟨τ, rfl, a1, a2, a3⟩ := hs
    refine ⟨τ, ?_, a1, a2, fun n h1 h2 q hq => a3 n h1 (by omega) q hq⟩
    rw [show d + (60 - d) = 60 by omega]
    simp only [kM_plans_s5, show (60 : Int32) ≤ nI 60 from nle (Nat.le_refl 60), if_true]) (s := (nI d, σ)) ⟨σ, rfl, Fx.rf, fun _ _ _ => rfl, fun n h1 h2 => by omega⟩
  rw [l1]
  exact ⟨τ, rfl, l2, l3, l4⟩
