theorem bedI : ∀ s, s < 512 → (nI s - nI (s / 32) * 32) / 4 = nI (s % 32 / 4) := by decide +kernel
theorem modI : ∀ s, s < 512 → nI s - nI s / 4 * 4 = nI (s % 4) := by decide +kernel
theorem somebody_ok {σ : Mem} {N n p b : Nat} {f : Nat → Option Nat} (hN : N ≤ 40) (h20 : mI σ 30 0 20 = nI N) (hn : n < 60) (hp : p < 16) (hb : b < 8) (h49 : ∀ q, q < N → mI σ 49 0 (60 * q + n) = cd (f q))
    (ho : ∀ q s, q < N → f q = some s → s < 512 ∧ s % 4 ≤ 1 ∧ (s % 4 = 1 → mI σ 34 0 (s / 32) = nI (s / 32 + 1) ∧ (p = s / 32 + 1 → b = 0))) :
    kM_hasSomebody σ (nI p) (nI b) (nI n) = some (if fb_ct (fun q => oB (f q) p b) N = 0 then 0 else 1, σ) := by
  obtain ⟨y, l1, l2⟩ := lp_inv (f := kM_hasSomebody_s3 (nI p) (nI b) (nI n)) (fun i s => s = (nI i, σ) ∧ ∀ q, q < i → oB (f q) p b = false) (fun y => (y = .inl σ ∧ ¬ fb_ct (fun q => oB (f q) p b) N = 0) ∨ (y = .inr σ ∧ fb_ct (fun q => oB (f q) p b) N = 0)) N (by omega) (fun i s hi hs => by
    obtain ⟨rfl, hlo⟩ := hs
    have hyes : oB (f i) p b = true → ¬ fb_ct (fun q => oB (f q) p b) N = 0 := fun h z => by
      have := fb_ct_zero.mp z i hi
      rw [h] at this
      cases this
    have hno : oB (f i) p b = false → ∀ q, q < i + 1 → oB (f q) p b = false := fun h q hq => by
      by_cases e : q = i
      · rw [e]; exact h
      · exact hlo q (by omega)
    simp only [kM_hasSomebody_s3, kM_hasSomebody_j55, h20, nge hi, if_false, ixq, inr_ (show 60 * i + n < 2400 by omega), if_true, ix_ (show 60 * i + n < 2 ^ 31 by omega), h49 i hi, nI_1]
    cases e : f i with
    | none =>
      refine Or.inl ⟨(nI (i + 1), σ), ?_, rfl, hno (by rw [e]; rfl)⟩
      rfl
    | some s =>
      obtain ⟨k1, k2, k3⟩ := ho i s hi e
      have hcd : cd (some s) = nI s := rfl
      have d1 : nI s / 32 = nI (s / 32) := pk_div (d := 32) (by omega) (by omega) (by decide)
      have d2 : (nI s - nI (s / 32) * 32) / 4 = nI (s % 32 / 4) := (bedI s k1)
      have d3 : nI s - nI s / 4 * 4 = nI (s % 4) := modI s k1
      rw [hcd, if_neg (nm512 s k1), d1, d2, d3, if_pos (inr_ (show s / 32 < 16 by omega)), ix_]
      by_cases c1 : s / 32 = p
      · by_cases c2 : s % 32 / 4 = b
        · rw [c1, if_pos rfl, c2, if_pos rfl]
          have : oB (f i) p b = true := by rw [e, oB_occ]; exact Or.inl ⟨c1.symm, c2.symm⟩
          exact Or.inr ⟨.inl σ, rfl, Or.inl ⟨rfl, hyes this⟩⟩
        · rw [if_pos (by rw [c1]), if_neg (fun z => c2 ((nI_eq (by omega) (by omega)).mp z))]
          have hf : oB (f i) p b = false := by
            cases z : oB (f i) p b with
            | false => rfl
            | true => rw [e, oB_occ] at z; unfold occ at z; omega
          refine Or.inl ⟨(nI (i + 1), σ), ?_, rfl, hno hf⟩
          by_cases c3 : s % 4 = 1
          · rw [if_pos (by rw [c3]; rfl), (k3 c3).1, if_neg (fun z => by have := (nI_eq (by omega) (by omega)).mp z; omega)]
          · rw [if_neg (show ¬ nI (s % 4) = 1 from fun z => c3 ((nI_eq (b := 1) (by omega) (by decide)).mp z))]
      · rw [if_neg (fun z => c1 ((nI_eq (by omega) (by omega)).mp z))]
        by_cases c3 : s % 4 = 1
        · rw [if_pos (by rw [c3]; rfl), (k3 c3).1]
          by_cases c4 : s / 32 + 1 = p
          · rw [if_pos (by rw [c4])]
            have : oB (f i) p b = true := by rw [e, oB_occ]; exact Or.inr ⟨c3, c4.symm, (k3 c3).2 c4.symm⟩
            exact Or.inr ⟨.inl σ, rfl, Or.inl ⟨rfl, hyes this⟩⟩
          · rw [if_neg (fun z => c4 ((nI_eq (by omega) (by omega)).mp z))]
            have hf : oB (f i) p b = false := by
              cases z : oB (f i) p b with
              | false => rfl
              | true => rw [e, oB_occ] at z; unfold occ at z; omega
            exact Or.inl ⟨(nI (i + 1), σ), rfl, rfl, hno hf⟩
        · rw [if_neg (show ¬ nI (s % 4) = 1 from fun z => c3 ((nI_eq (b := 1) (by omega) (by decide)).mp z))]
          have hf : oB (f i) p b = false := by
            cases z : oB (f i) p b with
            | false => rfl
            | true => rw [e, oB_occ] at z; unfold occ at z; omega
          exact Or.inl ⟨(nI (i + 1), σ), rfl, rfl, hno hf⟩) (fun s hs => by
    obtain ⟨rfl, hlo⟩ := hs
    exact ⟨.inr σ, by simp only [kM_hasSomebody_s3, h20, nle (Nat.le_refl N), if_true], Or.inr ⟨rfl, fb_ct_zero.mpr hlo⟩⟩) (s := (0, σ)) ⟨rfl, fun q hq => by omega⟩
  unfold kM_hasSomebody
  rw [l1]
  rcases l2 with ⟨e1, e2⟩ | ⟨e1, e2⟩
  · rw [e1, if_neg e2]; rfl
  · rw [e1, if_pos e2]; rfl
