/-- as Fx, but new things may have come -/
def Gx (l : List Nat) (m : List (Nat × Nat)) (σ σ' : Mem) : Prop := ∀ t i k, t ∉ l → (t, k) ∉ m → mI σ' t i k = mI σ t i k ∧ mL σ' t i k = mL σ t i k ∧ mR σ' t i k = mR σ t i k
section GX
variable {l : List Nat} {m : List (Nat × Nat)} {σ σ' σ'' : Mem}
theorem Fx.gx (h : Fx l m σ σ') : Gx l m σ σ' := h.1
theorem Gx.tr (h : Gx l m σ σ') (h' : Gx l m σ' σ'') : Gx l m σ σ'' := fun t i k a b => ⟨(h' t i k a b).1.trans (h t i k a b).1, (h' t i k a b).2.1.trans (h t i k a b).2.1, (h' t i k a b).2.2.trans (h t i k a b).2.2⟩
theorem Gx.wk {l' : List Nat} {m' : List (Nat × Nat)} (h : Gx l m σ σ') (hl : l.all (fun t => l'.contains t) = true) (hm : m.all (fun z => m'.contains z || l'.contains z.1) = true) : Gx l' m' σ σ' := fun t i k a b =>
  h t i k (fun z => a (by simpa using List.all_eq_true.mp hl t z)) (fun z => by
    have := List.all_eq_true.mp hm _ z
    simp only [Bool.or_eq_true, List.contains_iff_mem] at this
    exact this.elim b a)
theorem Gx.sI {t i k : Nat} {v : Int32} (h : Gx l m σ σ') (ht : t ∈ l ∨ (t, k) ∈ m := by simp) : Gx l m σ (sI σ' t i k v) := fun t' i' k' a b => by
  rw [mIsI, mLsI, mRsI, if_neg (show ¬ (t' = t ∧ i' = i ∧ k' = k) from fun z => ht.elim (fun q => a (by rw [z.1]; exact q)) (fun q => b (by rw [z.1, z.2.2]; exact q)))]
  exact h t' i' k' a b
theorem Gx.sL {t i k : Nat} {v : Int64} (h : Gx l m σ σ') (ht : t ∈ l ∨ (t, k) ∈ m := by simp) : Gx l m σ (sL σ' t i k v) := fun t' i' k' a b => by
  rw [mIsL, mLsL, mRsL, if_neg (show ¬ (t' = t ∧ i' = i ∧ k' = k) from fun z => ht.elim (fun q => a (by rw [z.1]; exact q)) (fun q => b (by rw [z.1, z.2.2]; exact q)))]
  exact h t' i' k' a b
theorem Gx.sR {t i k : Nat} {v : Option Nat} (h : Gx l m σ σ') (ht : t ∈ l ∨ (t, k) ∈ m := by simp) : Gx l m σ (sR σ' t i k v) := fun t' i' k' a b => by
  rw [mIsR, mLsR, mRsR, if_neg (show ¬ (t' = t ∧ i' = i ∧ k' = k) from fun z => ht.elim (fun q => a (by rw [z.1]; exact q)) (fun q => b (by rw [z.1, z.2.2]; exact q)))]
  exact h t' i' k' a b
theorem Gx.sV {t i : Nat} (h : Gx l m σ σ') : Gx l m σ (sV σ' t i) := fun t' i' k' a b => h t' i' k' a b
theorem Gx.sW {t i : Nat} {f : Nat → Int32} (h : Gx l m σ σ') (ht : t ∈ l := by simp) : Gx l m σ (sW σ' t i f) := fun t' i' k' a b => by
  rw [mIsW, mLsW, mRsW, if_neg (show ¬ (t' = t ∧ i' = i) from fun z => a (by rw [z.1]; exact ht))]
  exact h t' i' k' a b
theorem Gx.I (h : Gx l m σ σ') (t i k : Nat) (a : t ∉ l := by simp) (b : (t, k) ∉ m := by simp) : mI σ' t i k = mI σ t i k := (h t i k a b).1
theorem Gx.L (h : Gx l m σ σ') (t i k : Nat) (a : t ∉ l := by simp) (b : (t, k) ∉ m := by simp) : mL σ' t i k = mL σ t i k := (h t i k a b).2.1
theorem Gx.R (h : Gx l m σ σ') (t i k : Nat) (a : t ∉ l := by simp) (b : (t, k) ∉ m := by simp) : mR σ' t i k = mR σ t i k := (h t i k a b).2.2
theorem Gx.fx (h : Gx l m σ σ') : Fx l m σ (σ'.1, σ'.2.1, σ'.2.2.1, σ.2.2.2) := ⟨h, fun _ _ => rfl⟩
theorem HI.gx (h : Gx l m σ σ') (hn : nohit HT l m = true) (hv : ∀ p, mV σ' 20 p = mV σ 20 p) (hI : HI σ) : HI σ' := fun p hp => by
  have h0 := HI.fx h.fx hn hI p hp
  unfold HIp at h0 ⊢
  rw [hv p]
  exact h0
theorem TI.gx {R : Nat} (h : Gx l m σ σ') (hn : nohit TT2 l m = true) (hs : noslot 30 32 l m = true) (hv : ∀ k, mV σ' 23 k = mV σ 23 k) (hT : TI σ R) : TI σ' R := by
  obtain ⟨a, b, c, d, e, f⟩ := TI.fx h.fx hn hs hT
  exact ⟨a, b, c, d, e, fun k hk => by rw [hv k]; exact f k hk⟩
theorem hvS_gx (h : Gx l m σ σ') (hn : nohit HT l m = true) : hvS σ' = hvS σ := by
  have h0 := hvS_fx h.fx hn
  exact h0
theorem hvN_gx (h : Gx l m σ σ') (hn : nohit HT l m = true) (n : Nat) : hvN σ' n = hvN σ n := by
  have h0 := hvN_fx h.fx hn n
  exact h0
theorem tbl_tup {σ : Mem} {x : Nat → Nat → Bool} {R d w a : Nat} : ∀ j, tbl (σ.1, σ.2.1, σ.2.2.1, x) R d w a j = tbl σ R d w a j
  | 0 => rfl
  | j + 1 => by
    unfold tbl
    rw [tbl_tup j]
    rfl
theorem lst_gx {R d w a b : Nat} (h : Gx l m σ σ') (hn : nohit [57, 58, 59, 60, 61] l m = true) : lst σ' R d w a b = lst σ R d w a b := by
  have h0 := lst_fx (R := R) (d := d) (w := w) (a := a) (b := b) h.fx hn
  rw [← h0]
  unfold lst
  exact (congrFun (tbl_tup (σ := σ') (b - a)) b).symm
end GX
theorem PS_out {σ : Mem} {N d k q : Nat} (hI : HI σ) (hB : BI σ N) (hq : N ≤ q) : PS σ N d k q = none := by
  have key : ∀ n pv, (pnight (hvN σ n) (WLi σ n N) pv).2 q = none := fun n pv => by
    cases e : (pnight (hvN σ n) (WLi σ n N) pv).2 q with
    | none => rfl
    | some s =>
      obtain ⟨⟨-, -, g3, -⟩, -⟩ := pnight_ok (pv := pv) (WHN (n := n) hI) (wli_ok (n := n) hB)
      obtain ⟨e', he', hq'⟩ := (keepAll_ok (H := hvN σ n) (wli_ok (n := n) hB)).2.2 q (g3 q s e).2.1
      have := (wli_mem he').1
      omega
  cases k with
  | zero => exact key _ _
  | succ k => exact key _ _
theorem mspots_loop {σ : Mem} {N : Nat} (hN : N < 40) : ∃ σ', loopF FU (kM_promise_s153 (nI N)) (0, σ) = some σ' ∧ Fx [49] [] σ σ' ∧ (∀ k, k < 60 → mI σ' 49 0 (60 * N + k) = -1) ∧ ∀ q k, q ≠ N → k < 60 → mI σ' 49 0 (60 * q + k) = mI σ 49 0 (60 * q + k) := by
  refine lp_inv (f := kM_promise_s153 (nI N)) (fun i s => ∃ τ, s = (nI i, τ) ∧ Fx [49] [] σ τ ∧ (∀ k, k < i → mI τ 49 0 (60 * N + k) = -1) ∧ ∀ q k, q ≠ N → k < 60 → mI τ 49 0 (60 * q + k) = mI σ 49 0 (60 * q + k)) _ 60 (by omega) (fun i s hi hs => ?_) (fun s hs => ?_) ⟨σ, rfl, Fx.rf, fun k hk => by omega, fun _ _ _ _ => rfl⟩
  · obtain ⟨τ, rfl, a1, a2, a3⟩ := hs
    refine Or.inl ?_
    simp only [kM_promise_s153, show ¬ (60 : Int32) ≤ nI i from nge hi, if_false, ixq, inr_ (show 60 * N + i < 2400 by omega), if_true, ix_ (show 60 * N + i < 2 ^ 31 by omega), nI_1]
    refine ⟨_, rfl, _, rfl, a1.sI, fun k hk => ?_, fun q k hne hk => ?_⟩
    · rw [mIsI]
      by_cases e : k = i
      · rw [if_pos ⟨rfl, rfl, by rw [e]⟩]
      · rw [if_neg (by omega)]
        exact a2 k (by omega)
    · rw [mIsI, if_neg (by omega)]
      exact a3 q k hne hk
  · obtain ⟨τ, rfl, a⟩ := hs
    exact ⟨τ, by simp only [kM_promise_s153, show (60 : Int32) ≤ nI 60 from nle (Nat.le_refl 60), if_true], a⟩
def NL : List Nat := [6, 8, 9, 10, 18, 19, 21, 22, 40, 41, 42, 43, 44, 45, 46, 47, 48, 49, 51, 54, 63, 64]
def NM : List (Nat × Nat) := [(7, 4), (1, 7), (5, 1), (30, 0), (30, 20), (30, 22)]
theorem WLi_new {σ σ' : Mem} {N n : Nat} (s : ∀ t q, t ∈ [40, 41, 42, 43, 44, 45, 46, 47] → q ≠ N → mI σ' t 0 q = mI σ t 0 q) : ∀ i, i ≤ N → WLi σ' n i = WLi σ n i
  | 0, _ => rfl
  | i + 1, h => by
    have e : i ≠ N := by omega
    show WLi σ' n i ++ _ = WLi σ n i ++ _
    rw [WLi_new s i (by omega)]
    unfold wnt pe wq
    rw [s 40 i (by simp) e, s 41 i (by simp) e, s 43 i (by simp) e, s 44 i (by simp) e]
theorem INV'.nw {σ σ' : Mem} {N d P P' R a : Nat} (hI : INV' σ N d P R) (hN : N < 40) (g : Gx NL NM σ σ')
    (hv : ∀ t i, ((t = 21 ∨ t = 22) → i ≠ N) → mV σ' t i = mV σ t i)
    (r : ∀ q, q ≠ N → (∀ k, mI σ' 21 q k = mI σ 21 q k ∧ mL σ' 21 q k = mL σ 21 q k ∧ mI σ' 22 q k = mI σ 22 q k) ∧ mR σ' 6 0 q = mR σ 6 0 q ∧ mL σ' 48 0 q = mL σ 48 0 q)
    (s : ∀ t q, t ∈ [40, 41, 42, 43, 44, 45, 46, 47] → q ≠ N → mI σ' t 0 q = mI σ t 0 q)
    (s49 : ∀ q k, q ≠ N → k < 60 → mI σ' 49 0 (60 * q + k) = mI σ 49 0 (60 * q + k))
    (n49 : ∀ k, k < 60 → mI σ' 49 0 (60 * N + k) = -1) (n22 : ∀ k, k < 60 → mI σ' 22 N k = -1) (n46 : mI σ' 46 0 N = 0) (n47 : mI σ' 47 0 N = 0)
    (hBq : BIq σ' N) (h51 : mI σ' 5 0 1 = nI (N + 1)) (h20 : mI σ' 30 0 20 = nI (N + 1)) (h17 : mI σ' 1 0 7 = nI P') (hP1 : d ≤ P') (hP2 : P' ≤ P) (ea : mI σ' 43 0 N = nI a) (ha : a < 60) (hP3 : P' ≤ a) : INV' σ' (N + 1) d P' R := by
  obtain ⟨i1, i2, i3, i4, i5, i6, i7, i8⟩ := hI
  obtain ⟨b1, b2, b3, b4, b5⟩ := i2
  have hd := i3.1
  have hP60 := i5.2.2.1
  have hh : ∀ n, n < 60 → ∀ q, hist σ' (N + 1) n q = hist σ N n q := fun n hn q => by
    unfold hist
    by_cases e1 : q < N
    · rw [if_pos (by omega), if_pos e1, s49 q n (by omega) hn]
    · rw [if_neg e1]
      by_cases e2 : q = N
      · rw [if_pos (by omega), e2, n49 n hn]
        unfold dc
        rw [if_pos rfl]
      · rw [if_neg (by omega)]
  have hS : hvS σ' = hvS σ := hvS_gx g rfl
  have hwq : ∀ q, q < N → wq σ' q = wq σ q := fun q hq => by
    unfold wq
    rw [s 41 q (by simp) (by omega)]
  refine ⟨HI.gx g rfl (fun p => hv 20 p (fun z => by omega)) i1, ⟨by omega, h51, h20, fun q hq => ?_, fun q hq => ?_⟩, ?_, ?_, ?_, ?_, TI.gx g rfl rfl (fun k => hv 23 k (fun z => by omega)) i7, ?_⟩
  · by_cases e : q = N
    · rw [e]; exact hBq
    · have h0 := b4 q (by omega)
      obtain ⟨r1, r2, r3⟩ := r q e
      unfold BIq at h0 ⊢
      simp only [s 40 q (by simp) e, s 41 q (by simp) e, s 42 q (by simp) e, s 43 q (by simp) e, s 44 q (by simp) e, s 45 q (by simp) e, (r1 0).1, (r1 1).1, (r1 2).1, (r1 3).1, (r1 4).1, (r1 5).1, (r1 6).2.1, r2, r3]
      exact h0
  · rw [hv 21 q (fun _ => by omega), hv 22 q (fun _ => by omega)]
    exact b5 q (by omega)
  · unfold DI at i3 ⊢
    rw [g.I 1 0 5 (by decide) (by decide), g.I 30 0 8 (by decide) (by decide), g.I 1 0 6 (by decide) (by decide), g.I 30 0 9 (by decide) (by decide)]
    exact i3
  · intro n hn
    obtain ⟨⟨u1, u2⟩, u3⟩ := i4 n hn
    have e : hist σ' (N + 1) n = hist σ N n := funext fun q => hh n (by omega) q
    rw [e]
    have hout : ∀ q, ¬ q < N → hist σ N n q = none := fun q hq => by
      unfold hist
      rw [if_neg hq]
    refine ⟨⟨fun q hq t ht => ?_, fun q q' t t' hq hq' hne h h' => ?_⟩, fun q hq => ?_⟩
    · by_cases e1 : q < N
      · rw [hS, hwq q e1]
        exact u1 q e1 t ht
      · rw [hout q e1] at ht
        cases ht
    · by_cases e1 : q < N
      · by_cases e2 : q' < N
        · exact u2 q q' t t' e1 e2 hne h h'
        · rw [hout q' e2] at h'
          cases h'
      · rw [hout q e1] at h
        cases h
    · by_cases e1 : q < N
      · rw [s49 q n (by omega) (by omega), ((r q (by omega)).1 n).2.2]
        exact u3 q e1
      · obtain rfl : q = N := by omega
        rw [n49 n (by omega), n22 n (by omega), hout q e1]
        exact ⟨rfl, rfl⟩
  · refine ⟨h17, hP1, by omega, fun n h1 h2 q hq => ?_⟩
    have hw : ∀ n, n < a → WLi σ' n (N + 1) = WLi σ n N := fun n hn => by
      show WLi σ' n N ++ _ = WLi σ n N
      have : ¬ wnt σ' N n = true := fun z => by
        have z1 := (wnt_iff.mp z).2.1
        rw [ea] at z1
        exact nI_ge hn (by omega) z1
      rw [WLi_new s N (Nat.le_refl N), if_neg this, List.append_nil]
    rw [PS_cong (σ := σ) (N := N) (n - d) (fun n' u1 u2 => ⟨hvN_gx g rfl n', hw n' (by omega)⟩) (fun hd0 q => hh _ (by omega) q)]
    by_cases e1 : q < N
    · rw [((r q (by omega)).1 n).2.2]
      exact i5.2.2.2 n h1 (by omega) q e1
    · obtain rfl : q = N := by omega
      rw [n22 n (by omega), PS_out i1 ⟨b1, b2, b3, b4, b5⟩ (Nat.le_refl q)]
      rfl
  · intro q hq
    by_cases e1 : q < N
    · rw [s 46 q (by simp) (by omega), s 47 q (by simp) (by omega), (had_eq (fun n _ => ((r q (by omega)).1 n).2.2)).1, (had_eq (fun n _ => ((r q (by omega)).1 n).2.2)).2]
      exact i6 q e1
    · obtain rfl : q = N := by omega
      rw [n46, n47]
      have e2 : hadN σ' q d = 0 := fb_ct_zero.mpr fun k hk => by
        rw [n22 k (by omega)]
        rfl
      have e3 : movN σ' q d = 0 := fb_ct_zero.mpr fun k hk => by
        unfold mvd
        rw [n22 k (by omega)]
        simp
      rw [e2, e3]
      exact ⟨rfl, rfl⟩
  · unfold LV
    rw [hv 0 0 (fun z => by omega), hv 1 0 (fun z => by omega), hv 30 0 (fun z => by omega)]
    exact i8
theorem E_promise {σ : Mem} {x1 x2 x3 x4 x5 : Int32} (hI : INV σ) : EQ2 (fun σ => kG_promise σ x1 x2 x3 x4 x5) (fun σ => kM_promise σ x1 x2 x3 x4 x5) σ := by
  obtain ⟨N, d, P, R, hI⟩ := hI
  have hB := hI.2.1
  have hN := hB.1
  have hT := hI.2.2.2.2.2.2.1
  obtain ⟨d1, d2, d3, o, ho, eo1, eo2⟩ := hI.2.2.1
  obtain ⟨p1, p2, p3, p4⟩ := hI.2.2.2.2.1
  obtain ⟨c, hc, ⟨σ1, k1, k2⟩, k3, hm⟩ := why_ok (x1 := x1) (x2 := x2) (x3 := x3) (x4 := x4) (but := -1) hI
  have e15 : mI σ1 1 0 5 = nI d := by rw [k2.I 1 0 5]; exact d2
  -- the refusals
  have hrefuse : ∀ r : Int32, ¬ r = 0 → (kG_promise σ x1 x2 x3 x4 x5 = some (-1 - r, σ1)) → (∀ σ2, Fx [51, 54, 63, 64] [(30, 22)] (sI σ1 30 0 0 0) σ2 → kM_why (sI σ1 30 0 0 0) x1 x2 x3 x4 (-1) = some (nI c, σ2) → kM_promise σ1 x1 x2 x3 x4 x5 = some (-1 - r, σ2)) → EQ2 (fun σ => kG_promise σ x1 x2 x3 x4 x5) (fun σ => kM_promise σ x1 x2 x3 x4 x5) σ := fun r _ hg hmm => by
    have hF : Fx [8, 9, 10, 18, 19] [(7, 4), (30, 0)] σ (sI σ1 30 0 0 0) := (k2.wk (l' := [8, 9, 10, 18, 19]) (m' := [(7, 4), (30, 0)]) rfl rfl).sI
    obtain ⟨σ2, m1, m2, -⟩ := hm _ (SMd.fx hI hF rfl rfl rfl rfl)
    exact ⟨_, σ1, σ2, hg, hmm σ2 m2 m1, N, d, P, R, (hI.scr (k2.wk (by decide) (by decide))).thr.scr (m2.wk (by decide) (by decide))⟩
  have hF0 : Fx [8, 9, 10, 18, 19] [(7, 4), (30, 0)] σ (sI σ1 30 0 0 0) := (k2.wk (l' := [8, 9, 10, 18, 19]) (m' := [(7, 4), (30, 0)]) rfl rfl).sI
  by_cases c0 : c = 0
  · subst c0
    by_cases n40 : N = 40
    · rw [if_pos rfl, if_pos ⟨rfl, n40⟩] at k1
      refine hrefuse 4 (by decide) ?_ (fun σ2 m2 m1 => ?_)
      · unfold kG_promise
        rw [k1]
        simp only [Option.bind_some, show ¬ ((4 : Int32) = 0) by decide, if_false, kG_promise_j35]
      · have h20 : mI σ2 30 0 20 = 40 := by rw [m2.I 30 0 20, hF0.I 30 0 20, hB.2.2.1, n40]; rfl
        unfold kM_promise kM_can
        simp only [m1, Option.bind_some, show nI 0 ≤ 0 by decide, if_true, h20, show ¬ ((4 : Int32) = 0) by decide, if_false, kM_promise_j34, show ¬ ((4 : Int32) ≤ 0) by decide]
    · rw [if_pos rfl, if_neg (fun z => n40 z.2)] at k1
      obtain ⟨w, a, b, rfl, rfl, rfl, hw, ha, hab, hb⟩ := k3 rfl
      by_cases ct : x5 = -1 ∨ nI d ≤ x5
      · -- it is made
        have hN40 : N < 40 := by omega
        have e51 : mI σ1 5 0 1 = nI N := by rw [k2.I 5 0 1]; exact hB.2.1
        have v21 : mV σ1 21 N = false := by rw [k2.V]; exact (hB.2.2.2.2 N (Nat.le_refl N)).1
        have v22 : mV σ1 22 N = false := by rw [k2.V]; exact (hB.2.2.2.2 N (Nat.le_refl N)).2
        obtain ⟨st, hst, hst8⟩ : ∃ st : Nat, nI st = (if x5 = (-1) then (1 : Int32) else 0) ∧ st < 8 := by
          by_cases e : x5 = -1
          · exact ⟨1, by rw [if_pos e]; rfl, by omega⟩
          · exact ⟨0, by rw [if_neg e]; rfl, by omega⟩
        obtain ⟨τ0, hτ0⟩ : ∃ τ0, τ0 = sW (sV (sV (sL (sI (sI (sI (sI (sI (sI σ1 21 N 0 (nI w)) 21 N 1 x2) 21 N 2 x5) 21 N 3 (if x5 = (-1) then 1 else 0)) 21 N 4 0) 21 N 5 0) 21 N 6 0) 21 N) 22 N) 22 N (fun j => if j < 60 then (-1) else 0) := ⟨_, rfl⟩
        have G0 : Gx [8, 9, 10, 18, 19, 21, 22] [(7, 4)] σ τ0 := by
          rw [hτ0]
          exact ((((((((((k2.gx.wk (l' := [8, 9, 10, 18, 19, 21, 22]) (m' := [(7, 4)]) rfl rfl).sI).sI).sI).sI).sI).sI).sL).sV).sV).sW
        have V0 : ∀ t i, ((t = 21 ∨ t = 22) → i ≠ N) → mV τ0 t i = mV σ t i := fun t i h => by
          rw [hτ0, mVsW, mVsV, if_neg (fun z => h (Or.inr z.1) z.2), mVsV, if_neg (fun z => h (Or.inl z.1) z.2)]
          exact k2.V t i
        have R0 : ∀ q, q ≠ N → ∀ k, mI τ0 21 q k = mI σ 21 q k ∧ mL τ0 21 q k = mL σ 21 q k ∧ mI τ0 22 q k = mI σ 22 q k := fun q hne k => by
          rw [hτ0]
          simp only [mIsI, mIsL, mIsR, mIsV, mIfI, mIsW, mLsI, mLsL, mLsR, mLsV, mLfI, mLsW, mRsI, mRsL, mRsR, mRsV, mRfI, mRsW, mVsI, mVsL, mVsR, mVsV, mVfI, mVsW, hne, false_and, and_false, if_false]
          exact ⟨k2.I 21 q k, k2.L 21 q k, k2.I 22 q k⟩
        obtain ⟨τ1, t1, t2⟩ := leastCost_ok (d := d) (TI.gx G0 rfl rfl (fun k => V0 23 k (fun z => by omega)) hT) hw ha hab hb
        rw [show lst τ0 R d w a b = lst σ R d w a b from lst_gx G0 rfl] at t1
        have R1 := replanN (σ := sL (sI (sI τ1 21 N 4 (nI a)) 21 N 5 (nI b)) 21 N 6 (ec (lst σ R d w a b))) (d := d) (P := P) (n := a) (by rw [mIsL, mIsI, if_neg (by omega), mIsI, if_neg (by omega), t2.I 1 0 5, G0.I 1 0 5]; exact d2) (by rw [mIsL, mIsI, if_neg (by omega), mIsI, if_neg (by omega), t2.I 1 0 7, G0.I 1 0 7]; exact p1) p2 p3 (by omega)
        obtain ⟨P1, hP1⟩ : ∃ P1, P1 = max d (min P a) := ⟨_, rfl⟩
        rw [← hP1] at R1
        obtain ⟨τ2, hτ2⟩ : ∃ τ2, τ2 = sI (sL (sI (sI τ1 21 N 4 (nI a)) 21 N 5 (nI b)) 21 N 6 (ec (lst σ R d w a b))) 1 0 7 (nI P1) := ⟨_, rfl⟩
        rw [← hτ2] at R1
        obtain ⟨σ3, hσ3⟩ : ∃ σ3, σ3 = sI (sR τ2 6 0 N (some N)) 5 0 1 (nI N + 1) := ⟨_, rfl⟩
        have G2 : Gx [8, 9, 10, 18, 19, 21, 22] [(7, 4), (1, 7)] σ τ2 := by
          rw [hτ2]
          exact (((((G0.wk (l' := [8, 9, 10, 18, 19, 21, 22]) (m' := [(7, 4), (1, 7)]) rfl rfl).tr (t2.gx.wk rfl rfl)).sI).sI).sL).sI
        have hcl : kG_promise σ (nI w) x2 (nI a) (nI b) x5 = some (nI N, σ3) := by
          have hj : kG_promise_j35 σ1 (nI w) x2 (nI a) (nI b) x5 0 = some (nI N, σ3) := by
            have e15' : mI τ0 1 0 5 = nI d := by rw [G0.I 1 0 5]; exact d2
            have e51' : mI τ2 5 0 1 = nI N := by rw [G2.I 5 0 1]; exact hB.2.1
            have he : kB_enter τ2 N = some (nI N, σ3) := by
              unfold kB_enter
              simp only [e51', nn0 (show N < 2 ^ 31 by omega), if_false, show nI N < 40 from nI_lt hN40 (by decide), if_true, inr_ (show N < 40 by omega), ix_ (show N < 2 ^ 31 by omega), mIsR, ← hσ3]
              rw [hσ3, mIsI, if_pos ⟨rfl, rfl, rfl⟩, Int32.add_sub_cancel]
            unfold kG_promise_j35 kQ_init
            simp only [if_true, e51, ix_ (show N < 2 ^ 31 by omega), v21, v22, Option.bind_some, ← hτ0, e15', t1, kQ_setNights, R1, he]
          unfold kG_promise
          rw [k1]
          simp only [Option.bind_some, if_true, e15]
          rcases ct with ct | ct
          · rw [if_pos ct]; exact hj
          · by_cases e : x5 = -1
            · rw [if_pos e]; exact hj
            · rw [if_neg e, if_pos ct]; exact hj
        have G3 : Gx [6, 8, 9, 10, 18, 19, 21, 22] [(7, 4), (1, 7), (5, 1), (30, 0)] σ (sI σ3 30 0 0 0) := by
          rw [hσ3]
          exact (((G2.wk (l' := [6, 8, 9, 10, 18, 19, 21, 22]) (m' := [(7, 4), (1, 7), (5, 1), (30, 0)]) rfl rfl).sR).sI).sI
        have V3 : ∀ t i, ((t = 21 ∨ t = 22) → i ≠ N) → mV (sI σ3 30 0 0 0) t i = mV σ t i := fun t i h => by
          rw [hσ3, mVsI, mVsI, mVsR, hτ2, mVsI, mVsL, mVsI, mVsI, t2.V]
          exact V0 t i h
        have hS : SMd σ (sI σ3 30 0 0 0) N R := by
          refine ⟨HI.gx G3 rfl (fun p => V3 20 p (fun z => by omega)) hI.1, ⟨hN, by rw [G3.I 30 0 20]; exact hB.2.2.1, fun q hq => by rw [G3.I 41 0 q]; exact (hB.2.2.2.1 q hq).2.1⟩, TI.gx G3 rfl rfl (fun k => V3 23 k (fun z => by omega)) hT, G3.I 30 0 8, G3.I 30 0 9, fun t k ht => ?_, fun k => G3.L 36 0 k⟩
          refine G3.I t 0 k (fun z => ?_) (fun z => ?_)
          · simp at ht z
            omega
          · simp at ht z
            omega
        obtain ⟨σ4, m1, m2, m3⟩ := hm _ hS
        have m3 := m3 rfl w a b rfl rfl rfl hw hab hb
        obtain ⟨σ5, hσ5⟩ : ∃ σ5, σ5 = sI (sI (sL (sI (sI (sI (sI (sI (sI (sI σ4 30 0 20 (nI N + 1)) 40 0 N (nI st)) 41 0 N (nI w)) 42 0 N x2) 43 0 N (nI a)) 44 0 N (nI b)) 45 0 N x5) 48 0 N (ec (lst σ R d w a b))) 46 0 N 0) 47 0 N 0 := ⟨_, rfl⟩
        obtain ⟨σ6, l1, l2, l3, l4⟩ := mspots_loop (σ := σ5) hN40
        have hmm : kM_promise σ3 (nI w) x2 (nI a) (nI b) x5 = some (nI N, σ6) := by
          have h20 : mI σ4 30 0 20 = nI N := by rw [m2.I 30 0 20, G3.I 30 0 20, hB.2.2.1]
          have h8 : mI σ4 30 0 8 = nI d := by rw [m2.I 30 0 8, G3.I 30 0 8]; exact d3
          have hn40 : ¬ nI N = 40 := fun z => n40 ((nI_eq (b := 40) (by omega) (by decide)).mp z)
          have hj : kM_promise_j34 σ4 (nI w) x2 (nI a) (nI b) x5 0 = some (nI N, σ6) := by
            have e63 : ∀ v1 v2 v3 v4 v5 v6 v7 : Int32, mL (sI (sI (sI (sI (sI (sI (sI σ4 30 0 20 v7) 40 0 N v1) 41 0 N v2) 42 0 N v3) 43 0 N v4) 44 0 N v5) 45 0 N v6) 63 0 b = ec (lst σ R d w a b) := fun v1 v2 v3 v4 v5 v6 v7 => by
              simp only [mLsI]
              exact m3
            unfold kM_promise_j34 kM_promise_j77
            simp only [show (0 : Int32) ≤ 0 by decide, if_true, h20, inr_ (show N < 40 by omega), ix_ (show N < 2 ^ 31 by omega), inr_ (show b < 61 by omega), ix_ (show b < 2 ^ 31 by omega), e63]
            by_cases e : x5 = -1
            · rw [if_pos e] at hst ⊢
              rw [hst] at hσ5
              rw [← hσ5, l1]
              rfl
            · rw [if_neg e] at hst ⊢
              rw [hst] at hσ5
              rw [← hσ5, l1]
              rfl
          unfold kM_promise kM_can
          simp only [m1, Option.bind_some, show nI 0 ≤ 0 by decide, if_true, h20, hn40, if_false, h8]
          rcases ct with ct | ct
          · by_cases e : nI d ≤ x5
            · rw [if_pos e]; exact hj
            · rw [if_neg e, if_pos ct]; exact hj
          · rw [if_pos ct]; exact hj
        refine ⟨nI N, σ3, σ6, hcl, hmm, N + 1, d, P1, R, ?_⟩
        have G5 : Gx NL NM σ σ5 := by
          rw [hσ5]
          exact (((((((((((G3.wk (l' := NL) (m' := NM) rfl rfl).tr (m2.gx.wk rfl rfl)).sI (ht := Or.inr (by decide))).sI (ht := Or.inl (by decide))).sI (ht := Or.inl (by decide))).sI (ht := Or.inl (by decide))).sI (ht := Or.inl (by decide))).sI (ht := Or.inl (by decide))).sI (ht := Or.inl (by decide))).sL (ht := Or.inl (by decide))).sI (ht := Or.inl (by decide))).sI (ht := Or.inl (by decide))
        have G6 : Gx NL NM σ σ6 := G5.tr (l2.gx.wk rfl rfl)
        have s5 : ∀ t i k, t ≠ 30 → t ∉ [40, 41, 42, 43, 44, 45, 46, 47, 48, 49, 51, 54, 63, 64] → mI σ6 t i k = mI σ3 t i k ∧ mL σ6 t i k = mL σ3 t i k ∧ mR σ6 t i k = mR σ3 t i k := fun t i k h30 ht => by
          simp only [List.mem_cons, List.not_mem_nil, or_false, not_or] at ht
          obtain ⟨q0, q1, q2, q3, q4, q5, q6, q7, q8, q9, q10, q11, q12, q13⟩ := ht
          have hz : t ∉ [51, 54, 63, 64] := by simp [q10, q11, q12, q13]
          have hz2 : (t, k) ∉ [(30, 22)] := by simp [h30]
          rw [l2.I t i k (by simp [q9]), l2.L t i k (by simp [q9]), l2.R t i k (by simp [q9]), hσ5]
          simp only [mIsI, mIsL, mIsR, mIsV, mIfI, mIsW, mLsI, mLsL, mLsR, mLsV, mLfI, mLsW, mRsI, mRsL, mRsR, mRsV, mRfI, mRsW, mVsI, mVsL, mVsR, mVsV, mVfI, mVsW, q0, q1, q2, q3, q4, q5, q6, q7, q8, h30, false_and, if_false]
          rw [m2.I t i k hz hz2, m2.L t i k hz hz2, m2.R t i k hz hz2]
          simp only [mIsI, mIsL, mIsR, mIsV, mIfI, mIsW, mLsI, mLsL, mLsR, mLsV, mLfI, mLsW, mRsI, mRsL, mRsR, mRsV, mRfI, mRsW, mVsI, mVsL, mVsR, mVsV, mVfI, mVsW, h30, false_and, if_false, and_self]
        have w21 : ∀ q k, mI σ3 21 q k = if q = N ∧ k = 5 then nI b else if q = N ∧ k = 4 then nI a else mI τ0 21 q k := fun q k => by
          rw [hσ3, hτ2]
          simp only [mIsI, mIsL, mIsR, mIsV, mIfI, mIsW, mLsI, mLsL, mLsR, mLsV, mLfI, mLsW, mRsI, mRsL, mRsR, mRsV, mRfI, mRsW, mVsI, mVsL, mVsR, mVsV, mVfI, mVsW, t2.I 21 q k]
          simp
        have w216 : ∀ q k, mL σ3 21 q k = if q = N ∧ k = 6 then ec (lst σ R d w a b) else mL τ0 21 q k := fun q k => by
          rw [hσ3, hτ2]
          simp only [mIsI, mIsL, mIsR, mIsV, mIfI, mIsW, mLsI, mLsL, mLsR, mLsV, mLfI, mLsW, mRsI, mRsL, mRsR, mRsV, mRfI, mRsW, mVsI, mVsL, mVsR, mVsV, mVfI, mVsW, t2.L 21 q k]
          simp
        have w22 : ∀ q k, mI σ3 22 q k = mI τ0 22 q k := fun q k => by
          rw [hσ3, hτ2]
          simp only [mIsI, mIsL, mIsR, mIsV, mIfI, mIsW, mLsI, mLsL, mLsR, mLsV, mLfI, mLsW, mRsI, mRsL, mRsR, mRsV, mRfI, mRsW, mVsI, mVsL, mVsR, mVsV, mVfI, mVsW, t2.I 22 q k]
          simp
        have w6 : ∀ q, mR σ3 6 0 q = if q = N then some N else mR σ 6 0 q := fun q => by
          rw [hσ3, mRsI, mRsR, G2.R 6 0 q]
          simp
        have w17 : mI σ3 1 0 7 = nI P1 := by
          rw [hσ3, hτ2]
          simp [mIsI, mIsL, mIsR, mIsV, mIfI, mIsW, mLsI, mLsL, mLsR, mLsV, mLfI, mLsW, mRsI, mRsL, mRsR, mRsV, mRfI, mRsW, mVsI, mVsL, mVsR, mVsV, mVfI, mVsW]
        have w51 : mI σ3 5 0 1 = nI (N + 1) := by
          rw [hσ3, mIsI, if_pos ⟨rfl, rfl, rfl⟩, nI_1]
        have x21 : ∀ q k, mI σ6 21 q k = mI σ3 21 q k := fun q k => (s5 21 q k (by omega) (by decide)).1
        have x4 : ∀ t q, t ∈ [40, 41, 42, 43, 44, 45, 46, 47] → q ≠ N → mI σ6 t 0 q = mI σ t 0 q := fun t q ht hne => by
          have hn49 : t ∉ [49] := fun z => by simp at ht z; omega
          have hz : t ∉ [51, 54, 63, 64] := fun z => by simp at ht z; omega
          have hz2 : (t, q) ∉ [(30, 22)] := fun z => by simp at ht z; omega
          have hz3 : t ∉ [6, 8, 9, 10, 18, 19, 21, 22] := fun z => by simp at ht z; omega
          have hz4 : (t, q) ∉ [(7, 4), (1, 7), (5, 1), (30, 0)] := fun z => by simp at ht z; omega
          have h30 : t ≠ 30 := fun z => by simp at ht; omega
          rw [l2.I t 0 q hn49, hσ5]
          simp only [mIsI, mIsL, mIsR, mIsV, mIfI, mIsW, mLsI, mLsL, mLsR, mLsV, mLfI, mLsW, mRsI, mRsL, mRsR, mRsV, mRfI, mRsW, mVsI, mVsL, mVsR, mVsV, mVfI, mVsW, hne, h30, and_false, false_and, if_false]
          rw [m2.I t 0 q hz hz2, G3.I t 0 q hz3 hz4]
        have x4n : mI σ6 40 0 N = nI st ∧ mI σ6 41 0 N = nI w ∧ mI σ6 42 0 N = x2 ∧ mI σ6 43 0 N = nI a ∧ mI σ6 44 0 N = nI b ∧ mI σ6 45 0 N = x5 ∧ mI σ6 46 0 N = 0 ∧ mI σ6 47 0 N = 0 := by
          rw [l2.I 40 0 N, l2.I 41 0 N, l2.I 42 0 N, l2.I 43 0 N, l2.I 44 0 N, l2.I 45 0 N, l2.I 46 0 N, l2.I 47 0 N, hσ5]
          simp [mIsI, mIsL, mIsR, mIsV, mIfI, mIsW, mLsI, mLsL, mLsR, mLsV, mLfI, mLsW, mRsI, mRsL, mRsR, mRsV, mRfI, mRsW, mVsI, mVsL, mVsR, mVsV, mVfI, mVsW]
        have x48 : ∀ q, mL σ6 48 0 q = if q = N then ec (lst σ R d w a b) else mL σ 48 0 q := fun q => by
          rw [l2.L 48 0 q, hσ5]
          simp only [mIsI, mIsL, mIsR, mIsV, mIfI, mIsW, mLsI, mLsL, mLsR, mLsV, mLfI, mLsW, mRsI, mRsL, mRsR, mRsV, mRfI, mRsW, mVsI, mVsL, mVsR, mVsV, mVfI, mVsW, m2.L 48 0 q, G3.L 48 0 q]
          simp
        obtain ⟨y0, y1, y2, y3, y4, y5, y6, y7⟩ := x4n
        have z22 : ∀ k, k < 60 → mI σ6 22 N k = -1 := fun k hk => by
          rw [(s5 22 N k (by omega) (by decide)).1, w22, hτ0, mIsW, if_pos ⟨rfl, rfl⟩, if_pos hk]
        refine INV'.nw (a := a) hI hN40 G6 (fun t i h => ?_) (fun q hne => ⟨fun k => ⟨?_, ?_, ?_⟩, ?_, ?_⟩) x4 (fun q k hne hk => ?_) l3 z22 y6 y7 ?_ ?_ ?_ ?_ (by omega) (by omega) y3 (by omega) (by omega)
        · rw [l2.V, hσ5]
          simp only [mIsI, mIsL, mIsR, mIsV, mIfI, mIsW, mLsI, mLsL, mLsR, mLsV, mLfI, mLsW, mRsI, mRsL, mRsR, mRsV, mRfI, mRsW, mVsI, mVsL, mVsR, mVsV, mVfI, mVsW]
          rw [m2.V]
          exact V3 t i h
        · rw [x21, w21, if_neg (fun z => hne z.1), if_neg (fun z => hne z.1)]
          exact (R0 q hne k).1
        · rw [(s5 21 q k (by omega) (by decide)).2.1, w216, if_neg (fun z => hne z.1)]
          exact (R0 q hne k).2.1
        · rw [(s5 22 q k (by omega) (by decide)).1, w22]
          exact (R0 q hne k).2.2
        · rw [(s5 6 0 q (by omega) (by decide)).2.2, w6, if_neg hne]
        · rw [x48, if_neg hne]
        · rw [l4 q k hne hk, hσ5]
          simp only [mIsI, mIsL, mIsR, mIsV, mIfI, mIsW, mLsI, mLsL, mLsR, mLsV, mLfI, mLsW, mRsI, mRsL, mRsR, mRsV, mRfI, mRsW, mVsI, mVsL, mVsR, mVsV, mVfI, mVsW]
          rw [m2.I 49 0 _, G3.I 49 0 _]
          simp
        · unfold BIq
          rw [(s5 6 0 N (by omega) (by decide)).2.2, w6, if_pos rfl, y0, y1, y2, y3, y4, y5, x21, x21, x21, x21, x21, x21, (s5 21 N 6 (by omega) (by decide)).2.1, w21, w21, w21, w21, w21, w21, w216, x48, hτ0]
          refine ⟨rfl, ⟨w, hw, rfl⟩, ⟨st, hst8, rfl⟩, ⟨a, b, hab, hb, rfl, rfl⟩, ?_⟩
          simp [mIsI, mIsL, mIsR, mIsV, mIfI, mIsW, mLsI, mLsL, mLsR, mLsV, mLfI, mLsW, mRsI, mRsL, mRsR, mRsV, mRfI, mRsW, mVsI, mVsL, mVsR, mVsV, mVfI, mVsW, hst]
        · rw [(s5 5 0 1 (by omega) (by decide)).1, w51]
        · rw [l2.I 30 0 20, hσ5]
          simp [mIsI, mIsL, mIsR, mIsV, mIfI, mIsW, mLsI, mLsL, mLsR, mLsV, mLfI, mLsW, mRsI, mRsL, mRsR, mRsV, mRfI, mRsW, mVsI, mVsL, mVsR, mVsV, mVfI, mVsW, nI_1]
        · rw [(s5 1 0 7 (by omega) (by decide)).1, w17]
      · simp only [not_or] at ct
        have hlt : ¬ nI d ≤ x5 := ct.2
        refine hrefuse 5 (by decide) ?_ (fun σ2 m2 m1 => ?_)
        · unfold kG_promise
          rw [k1]
          simp only [Option.bind_some, if_true, ct.1, if_false, e15, hlt, kG_promise_j35, show ¬ ((5 : Int32) = 0) by decide]
        · have h20 : mI σ2 30 0 20 = nI N := by rw [m2.I 30 0 20, hF0.I 30 0 20, hB.2.2.1]
          have h8 : mI σ2 30 0 8 = nI d := by rw [m2.I 30 0 8, hF0.I 30 0 8]; exact d3
          have hn40 : ¬ nI N = 40 := fun z => n40 ((nI_eq (b := 40) (by omega) (by decide)).mp z)
          unfold kM_promise kM_can
          simp only [m1, Option.bind_some, show nI 0 ≤ 0 by decide, if_true, h20, hn40, if_false, h8, hlt, ct.1, kM_promise_j34, show ¬ ((5 : Int32) ≤ 0) by decide]
  · rw [if_neg c0] at k1
    have hne : ¬ nI c = 0 := nI_ne0 (by omega) (by omega)
    have hnle : ¬ nI c ≤ 0 := nI_nle (by omega) (by omega)
    refine hrefuse (nI c) hne ?_ (fun σ2 m2 m1 => ?_)
    · unfold kG_promise
      rw [k1]
      simp only [Option.bind_some, hne, if_false, kG_promise_j35]
    · unfold kM_promise kM_can
      simp only [m1, Option.bind_some, hnle, if_false, hne, kM_promise_j34]
