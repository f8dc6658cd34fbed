theorem mfl_bits {σ : Mem} {m : Int32} : loopF FU (kM_floors_s100 m) (0, 0, σ) = some (rs m 10, σ) := by
  obtain ⟨y, l1, l2⟩ := lp_inv (f := kM_floors_s100 m) (fun i s => s = (rs m i, nI i, σ)) (fun y => y = (rs m 10, σ)) 10 (by omega) (fun i s hi hs => by
    subst hs
    refine Or.inl ?_
    simp only [kM_floors_s100, show ¬ (10 : Int32) ≤ nI i from nge (show i < 10 by omega), if_false, nI_1]
    exact ⟨_, rfl, rfl⟩) (fun s hs => by
    subst hs
    exact ⟨_, by simp only [kM_floors_s100, show (10 : Int32) ≤ nI 10 from nle (Nat.le_refl 10), if_true], rfl⟩) (s := (0, 0, σ)) rfl
  rw [l1, l2]
/-- the floors seen by the first k -/
def fA (g : Nat → Option Nat) (x1 x2 : Int32) : Nat → Nat
  | 0 => 0
  | q + 1 => if nI q < x1 then fA g x1 x2 q else if x2 < nI q then fA g x1 x2 q else (g q).elim (fA g x1 x2 q) (fun f => fA g x1 x2 q ||| 2 ^ f)
theorem fA_lt {g : Nat → Option Nat} {x1 x2 : Int32} {N : Nat} (hg : ∀ q f, q < N → g q = some f → f < 10) : ∀ k, k ≤ N → fA g x1 x2 k < 1024
  | 0, _ => by show 0 < 1024; omega
  | k + 1, h => by
    have ih := fA_lt (x1 := x1) (x2 := x2) hg k (by omega)
    unfold fA
    by_cases c1 : nI k < x1
    · rw [if_pos c1]; exact ih
    · rw [if_neg c1]
      by_cases c2 : x2 < nI k
      · rw [if_pos c2]; exact ih
      · rw [if_neg c2]
        cases e : g k with
        | none => exact ih
        | some f => exact (orF f (hg k f (by omega) e) _ ih).2
theorem fA_low {g : Nat → Option Nat} {x1 x2 : Int32} : ∀ k, (∀ q, q < k → nI q < x1) → fA g x1 x2 k = 0
  | 0, _ => rfl
  | k + 1, h => by
    unfold fA
    rw [if_pos (h k (by omega))]
    exact fA_low k (fun q hq => h q (by omega))
theorem fA_high {g : Nat → Option Nat} {x1 x2 : Int32} {i : Nat} : ∀ j, (∀ q, i ≤ q → q < i + j → x2 < nI q) → fA g x1 x2 (i + j) = fA g x1 x2 i
  | 0, _ => rfl
  | j + 1, h => by
    show (if nI (i + j) < x1 then fA g x1 x2 (i + j) else if x2 < nI (i + j) then fA g x1 x2 (i + j) else _) = _
    rw [fA_high j (fun q a b => h q a (by omega)), if_pos (h (i + j) (by omega) (by omega))]
    by_cases c : nI (i + j) < x1
    · rw [if_pos c]
    · rw [if_neg c]
theorem gfl_step {σ : Mem} {x2 x3 x4 x5 r p : Int32} {q : Nat} {j : Option Nat} (c2 : ¬ x2 < x5) (hN : ¬ mI σ 5 0 1 ≤ x5) (e0 : kB_at σ x5 = some (some q, σ)) (e1 : kQ_spotIn σ q x3 = some (r, σ)) (e2 : kG_placeOf σ r = some (p, σ)) (e3 : kH_roomAt σ p = some (j, σ)) : kG_floors_s15 x2 x3 (x4, x5, σ) = kG_floors_j69 σ x2 x3 x4 x5 j := by
  refine (if_neg c2).trans ((if_neg hN).trans ?_)
  refine (bnd e0).trans ?_
  show (kQ_spotIn σ q x3).bind _ = _
  refine (bnd e1).trans ?_
  show (kG_placeOf σ r).bind _ = _
  refine (bnd e2).trans ?_
  show (kH_roomAt σ p).bind _ = _
  exact bnd e3
/-- the class's walk through the list -/
theorem gfl_loop {σ : Mem} {N lo : Nat} {x1 x2 x3 : Int32} {g : Nat → Option Nat} (hB : BI σ N) (hg : ∀ q f, q < N → g q = some f → f < 10) (hlo : lo ≤ N) (h1 : ∀ q, q < lo → nI q < x1) (h2 : ∀ q, lo ≤ q → q < N → ¬ nI q < x1)
    (hs : ∀ q, q < N → ∃ r p j, kQ_spotIn σ q x3 = some (r, σ) ∧ kG_placeOf σ r = some (p, σ) ∧ kH_roomAt σ p = some (j, σ) ∧ (g q = none → j = none) ∧ ∀ f, g q = some f → ∃ i, j = some i ∧ mI σ 20 i 1 = nI f) :
    loopF FU (kG_floors_s15 x2 x3) (0, nI lo, σ) = some (nI (fA g x1 x2 N), σ) := by
  have hN := hB.1
  obtain ⟨y, l1, l2⟩ := lp_inv (f := kG_floors_s15 x2 x3) (fun i s => s = (nI (fA g x1 x2 (lo + i)), nI (lo + i), σ)) (fun y => y = (nI (fA g x1 x2 N), σ)) (N - lo) (by omega) (fun i s hi hs' => by
    subst hs'
    by_cases c2 : x2 < nI (lo + i)
    · refine Or.inr ⟨(nI (fA g x1 x2 (lo + i)), σ), by simp only [kG_floors_s15, c2, if_true], ?_⟩
      have := fA_high (g := g) (x1 := x1) (x2 := x2) (i := lo + i) (N - (lo + i)) (fun q a b => Int32.lt_of_lt_of_le c2 (nI_le a (by omega)))
      rw [show lo + i + (N - (lo + i)) = N by omega] at this
      rw [this]
    · refine Or.inl ?_
      obtain ⟨r, p, j, e1, e2, e3, e4, e5⟩ := hs (lo + i) (by omega)
      rw [gfl_step c2 (by rw [hB.2.1]; exact nge (show lo + i < N by omega)) (at_in hB (show lo + i < N by omega)) e1 e2 e3]
      unfold kG_floors_j69
      have hA : fA g x1 x2 (lo + (i + 1)) = (g (lo + i)).elim (fA g x1 x2 (lo + i)) (fun f => fA g x1 x2 (lo + i) ||| 2 ^ f) := by
        show (if nI (lo + i) < x1 then fA g x1 x2 (lo + i) else if x2 < nI (lo + i) then fA g x1 x2 (lo + i) else _) = _
        rw [if_neg (h2 _ (by omega) (by omega)), if_neg c2]
        rfl
      cases e : g (lo + i) with
      | none =>
        rw [e4 e, Option.elim_none]
        refine ⟨_, rfl, ?_⟩
        rw [hA, e, nI_1]
        rfl
      | some f =>
        obtain ⟨k, ek, ef⟩ := e5 f e
        rw [ek, Option.elim_some]
        refine ⟨_, rfl, ?_⟩
        rw [hA, e, ef, (orF f (hg _ f (by omega) e) _ (fA_lt hg (lo + i) (by omega))).1, nI_1]
        rfl) (fun s hs' => by
    subst hs'
    rw [show lo + (N - lo) = N by omega]
    by_cases c2 : x2 < nI N
    · exact ⟨(nI (fA g x1 x2 N), σ), by simp only [kG_floors_s15, c2, if_true], rfl⟩
    · exact ⟨(nI (fA g x1 x2 N), σ), by simp only [kG_floors_s15, c2, if_false, hB.2.1, nle (Nat.le_refl N), if_true], rfl⟩) (s := (0, nI lo, σ)) (by rw [Nat.add_zero, fA_low lo h1]; rfl)
  rw [l1, l2]
theorem mfl_loop {σ : Mem} {N n : Nat} {x1 x2 : Int32} {g : Nat → Option Nat} (hN : N ≤ 40) (hn : n < 60) (h20 : mI σ 30 0 20 = nI N) (hg : ∀ q f, q < N → g q = some f → f < 10)
    (hs : ∀ q, q < N → (g q = none → mI σ 49 0 (60 * q + n) = -1) ∧ ∀ f, g q = some f → ∃ s, s < 512 ∧ mI σ 49 0 (60 * q + n) = nI s ∧ mI σ 32 0 (s / 32) = nI f) :
    loopF FU (kM_floors_s24 x1 x2 (nI n)) (0, 0, σ) = some (nI (fA g x1 x2 N), σ) := by
  obtain ⟨y, l1, l2⟩ := lp_inv (f := kM_floors_s24 x1 x2 (nI n)) (fun i s => s = (nI (fA g x1 x2 i), nI i, σ)) (fun y => y = (nI (fA g x1 x2 N), σ)) N (by omega) (fun i s hi hs' => by
    subst hs'
    refine Or.inl ?_
    simp only [kM_floors_s24, h20, nge hi, if_false, ixq, inr_ (show 60 * i + n < 2400 by omega), if_true, ix_ (show 60 * i + n < 2 ^ 31 by omega)]
    by_cases c1 : nI i < x1
    · rw [if_pos c1]
      exact ⟨_, rfl, by rw [nI_1, show fA g x1 x2 (i + 1) = fA g x1 x2 i from if_pos c1]⟩
    · rw [if_neg c1]
      by_cases c2 : x2 < nI i
      · rw [if_pos c2]
        exact ⟨_, rfl, by rw [nI_1, show fA g x1 x2 (i + 1) = fA g x1 x2 i from (if_neg c1).trans (if_pos c2)]⟩
      · rw [if_neg c2]
        have hA : fA g x1 x2 (i + 1) = (g i).elim (fA g x1 x2 i) (fun f => fA g x1 x2 i ||| 2 ^ f) := (if_neg c1).trans (if_neg c2)
        obtain ⟨u1, u2⟩ := hs i hi
        cases e : g i with
        | none =>
          rw [if_pos (u1 e)]
          refine ⟨_, rfl, ?_⟩
          rw [hA, e, nI_1]
          rfl
        | some f =>
          obtain ⟨s, h1, h2, h3⟩ := u2 f e
          rw [h2, if_neg (nm512 s h1), show nI s / 32 = nI (s / 32) from pk_div (d := 32) (by omega) (by omega) (by decide), if_pos (inr_ (by omega)), ix_, h3]
          refine ⟨_, rfl, ?_⟩
          rw [hA, e, (orF f (hg _ f hi e) _ (fA_lt hg i (by omega))).1, nI_1]
          rfl) (fun s hs' => by
    subst hs'
    exact ⟨_, by simp only [kM_floors_s24, h20, nle (Nat.le_refl N), if_true], rfl⟩) (s := (0, 0, σ)) rfl
  rw [l1, l2]
