/-- a room of the kind, open in the night -/
def oK (σ : Mem) (x1 : Int32) (n p : Nat) : Bool := decide (mI σ 31 0 p = x1) && opn σ p n
def uNp (σ : Mem) (p : Nat) : Nat := (hvS σ).2.2.1 p
theorem oK_rm {σ : Mem} {x1 : Int32} {p n : Nat} (h : oK σ x1 n p = true) : isRm σ p = true := by
  unfold oK at h
  rw [Bool.and_eq_true] at h
  exact opn_rm h.2
theorem openUnits_ok {σ : Mem} {x1 : Int32} {n : Nat} (hI : HI σ) (hn : n < 60) : kH_openUnits σ x1 (nI n) = some (nI (fb_sm (fun p => if oK σ x1 n p = true then uNp σ p else 0) 16), σ) := by
  obtain ⟨y, l1, l2⟩ := lp_inv (f := kH_openUnits_s5 x1 (nI n)) (fun i s => s = (nI (fb_sm (fun p => if oK σ x1 n p = true then uNp σ p else 0) i), nI i, σ)) (fun y => y = (nI (fb_sm (fun p => if oK σ x1 n p = true then uNp σ p else 0) 16), σ)) 16 (by omega) (fun i s hi hs => by
    subst hs
    refine Or.inl ?_
    have hz : oK σ x1 n i = false → ∃ s', some (Sum.inl (nI (fb_sm (fun p => if oK σ x1 n p = true then uNp σ p else 0) i), nI i + 1, σ)) = some (Sum.inl (β := Int32 × Mem) s') ∧ s' = (nI (fb_sm (fun p => if oK σ x1 n p = true then uNp σ p else 0) (i + 1)), nI (i + 1), σ) := fun h => by
      refine ⟨_, rfl, ?_⟩
      rw [fb_sm_succ, h, nI_1]
      rfl
    obtain ⟨-, h3, -, -, -, -, h6, -⟩ := hI i hi
    simp only [kH_openUnits_s5, show ¬ (16 : Int32) ≤ nI i from nge (show i < 16 by omega), if_false, inr_ hi, if_true, ix_ (show i < 2 ^ 31 by omega), h3]
    by_cases hr : isRm σ i = true
    · rw [if_pos hr, Option.elim_some]
      obtain ⟨k0, -⟩ := h6 hr
      rw [k0]
      by_cases c1 : mI σ 31 0 i = x1
      · rw [if_pos c1, isOpen_in hI hr hn, Option.bind_some]
        by_cases c2 : opn σ i n = true
        · obtain ⟨u, u1, u2, u3, u4, -⟩ := units_in hI hr
          simp only [c2, if_true, show ¬ ((1 : Int32) = 0) by decide, if_false, u3, Option.bind_some]
          refine ⟨_, rfl, ?_⟩
          rw [fb_sm_succ, show oK σ x1 n i = true by simp [oK, c1, c2], if_pos rfl, nI_1, nI_ad, u4]
          rfl
        · simp only [c2, if_true, if_false]
          exact hz (by simp [oK, c2])
      · rw [if_neg c1]
        exact hz (by simp [oK, c1])
    · rw [if_neg hr, Option.elim_none]
      exact hz (by
        cases e : oK σ x1 n i with
        | false => rfl
        | true => exact absurd (oK_rm e) hr)) (fun s hs => by
    subst hs
    exact ⟨(nI (fb_sm (fun p => if oK σ x1 n p = true then uNp σ p else 0) 16), σ), by simp only [kH_openUnits_s5, show (16 : Int32) ≤ nI 16 from nle (Nat.le_refl 16), if_true], rfl⟩) (s := (0, 0, σ)) rfl
  unfold kH_openUnits
  rw [l1, l2]
  rfl
theorem openOfKind_in {σ : Mem} {x1 : Int32} {n p : Nat} (hI : HI σ) (hn : n < 60) (hp : p < 16) : kH_isOpenOfKind σ (nI p) x1 (nI n) = some (if oK σ x1 n p = true then 1 else 0, σ) := by
  obtain ⟨-, h3, -, -, -, -, h6, -⟩ := hI p hp
  refine (bnd (roomAt_in hI hp)).trans ?_
  by_cases hr : isRm σ p = true
  · rw [if_pos hr]
    obtain ⟨k0, -⟩ := h6 hr
    show (if mI σ 20 p 0 = x1 then (kR_isOpen σ p (nI n)).bind _ else some (0, σ)) = _
    rw [k0]
    by_cases c1 : mI σ 31 0 p = x1
    · rw [if_pos c1]
      refine (bnd (isOpen_in hI hr hn)).trans ?_
      by_cases c2 : opn σ p n = true
      · rw [if_pos c2, if_pos (show oK σ x1 n p = true by simp [oK, c1, c2])]
        rfl
      · rw [if_neg c2, if_neg (show ¬ oK σ x1 n p = true by simp [oK, c2])]
        rfl
    · rw [if_neg c1, if_neg (show ¬ oK σ x1 n p = true by simp [oK, c1])]
  · rw [if_neg hr, if_neg (fun z => hr (oK_rm z))]
    rfl
theorem openOfKind_out {σ : Mem} {x x1 x2 : Int32} (h : x < 0 ∨ nI 16 ≤ x) : kH_isOpenOfKind σ x x1 x2 = some (0, σ) := (bnd (roomAt_out h)).trans rfl
/-- what one promise takes of the kind in the night -/
def tk1 (σ : Mem) (x1 : Int32) (n : Nat) (o : Option Nat) : Nat := o.elim 0 (fun s => (if oK σ x1 n (s / 32) = true then 1 else 0) + (if s % 4 = 1 then (if oK σ x1 n (s / 32 + 1) = true then 1 else 0) else 0))
theorem suiteI : ∀ s, s < 512 → ((nI s &&& 1) = 1 ↔ s % 2 = 1) := by decide +kernel
theorem taken_step {σ : Mem} {x1 x3 x4 : Int32} {n : Nat} {o : Option Nat} (hI : HI σ) (hn : n < 60) (ho : ∀ s, o = some s → s < 512 ∧ s % 4 ≤ 1 ∧ (s % 4 = 1 → s / 32 + 1 < 16)) : kG_takenUnits_j43 σ x1 (nI n) x3 x4 (cd o) = some (.inl (x3 + nI (tk1 σ x1 n o), x4 + 1, σ)) := by
  cases o with
  | none =>
    refine (bnd (show kG_placeOf σ (cd none) = some (-1, σ) from rfl)).trans ?_
    refine (bnd (openOfKind_out (σ := σ) (x := -1) (Or.inl (by decide)))).trans ?_
    show kG_takenUnits_j68 σ x1 (nI n) x4 (-1) 0 x3 = _
    refine (bnd (show kG_isSuite σ (-1) = some (0, σ) from rfl)).trans ?_
    rfl
  | some s =>
    obtain ⟨h1, h2, h3⟩ := ho s rfl
    refine (bnd (show kG_placeOf σ (nI s) = some (nI (s / 32), σ) by unfold kG_placeOf; rw [(codeI s h1).1])).trans ?_
    refine (bnd (openOfKind_in hI hn (by omega))).trans ?_
    have hsu : kG_isSuite σ (nI s) = some (if s % 4 = 1 then 1 else 0, σ) := by
      unfold kG_isSuite
      rw [if_neg nn0]
      by_cases c : s % 4 = 1
      · rw [if_pos ((suiteI s h1).mpr (by omega)), if_pos c]
      · rw [if_neg (fun z => c (by have := (suiteI s h1).mp z; omega)), if_neg c]
    have j68 : ∀ y : Int32, kG_takenUnits_j68 σ x1 (nI n) x4 (nI s) y x3 = some (.inl (x3 + y + nI (if s % 4 = 1 then (if oK σ x1 n (s / 32 + 1) = true then 1 else 0) else 0), x4 + 1, σ)) := fun y => by
      refine (bnd hsu).trans ?_
      by_cases c : s % 4 = 1
      · rw [if_pos c, if_pos c]
        refine (if_neg (show ¬ ((1 : Int32) = 0) by decide)).trans ?_
        refine (bnd (show kG_placeOf σ (nI s) = some (nI (s / 32), σ) by unfold kG_placeOf; rw [(codeI s h1).1])).trans ?_
        show (kH_isOpenOfKind σ (nI (s / 32) + 1) x1 (nI n)).bind _ = _
        rw [nI_1]
        refine (bnd (openOfKind_in hI hn (h3 c))).trans ?_
        by_cases c2 : oK σ x1 n (s / 32 + 1) = true
        · rw [if_pos c2, if_pos c2]; rfl
        · rw [if_neg c2, if_neg c2]; rfl
      · rw [if_neg c, if_neg c]
        show some (Sum.inl (x3 + y, x4 + 1, σ)) = _
        rw [show nI 0 = 0 from rfl, Int32.add_zero]
    have e : nI (tk1 σ x1 n (some s)) = nI (if oK σ x1 n (s / 32) = true then 1 else 0) + nI (if s % 4 = 1 then (if oK σ x1 n (s / 32 + 1) = true then 1 else 0) else 0) := by rw [nI_ad]; rfl
    rw [e, ← Int32.add_assoc]
    by_cases c1 : oK σ x1 n (s / 32) = true
    · rw [if_pos c1, if_pos c1]
      show kG_takenUnits_j68 σ x1 (nI n) x4 (nI s) 1 x3 = _
      rw [j68]
      rfl
    · rw [if_neg c1, if_neg c1]
      show kG_takenUnits_j68 σ x1 (nI n) x4 (nI s) 0 x3 = _
      rw [j68]
      rfl
theorem taken_ok {σ : Mem} {x1 : Int32} {N n : Nat} {f : Nat → Option Nat} (hI : HI σ) (hB : BI σ N) (hn : n < 60) (h22 : ∀ q, q < N → mI σ 22 q n = cd (f q)) (ho : ∀ q s, q < N → f q = some s → s < 512 ∧ s % 4 ≤ 1 ∧ (s % 4 = 1 → s / 32 + 1 < 16)) : kG_takenUnits σ x1 (nI n) = some (nI (fb_sm (fun q => tk1 σ x1 n (f q)) N), σ) := by
  have hN := hB.1
  obtain ⟨y, l1, l2⟩ := lp_inv (f := kG_takenUnits_s5 x1 (nI n)) (fun i s => s = (nI (fb_sm (fun q => tk1 σ x1 n (f q)) i), nI i, σ)) (fun y => y = (nI (fb_sm (fun q => tk1 σ x1 n (f q)) N), σ)) N (by omega) (fun i s hi hs => by
    subst hs
    refine Or.inl ⟨(nI (fb_sm (fun q => tk1 σ x1 n (f q)) (i + 1)), nI (i + 1), σ), ?_, rfl⟩
    refine (if_neg (by rw [hB.2.1]; exact nge hi)).trans ?_
    refine (bnd (at_in hB hi)).trans ?_
    show (kQ_spotIn σ i (nI n)).bind _ = _
    refine (bnd (spotIn_in hn)).trans ?_
    show kG_takenUnits_j43 σ x1 (nI n) _ _ (mI σ 22 i n) = _
    rw [h22 i hi, taken_step hI hn (fun s hs => ho i s hi hs), fb_sm_succ, nI_1, nI_ad]) (fun s hs => by
    subst hs
    exact ⟨(nI (fb_sm (fun q => tk1 σ x1 n (f q)) N), σ), if_pos (by rw [hB.2.1]; exact nle (Nat.le_refl N)), rfl⟩) (s := (0, 0, σ)) rfl
  unfold kG_takenUnits
  rw [l1, l2]
  rfl
