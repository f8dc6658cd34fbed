section RMS
variable {σ : Mem} {x1 x3 : Int32} {n : Nat} {W : Nat → Nat → Nat}
theorem mrooms_in {p c : Nat} (hI : HI σ) (hp : p < 16) (hr : isRm σ p = true) (h31 : mI σ 31 0 p = x1)
    (hW : ∀ b, b < uNp σ p → (x3 = 0 ∧ W p b = 1) ∨ (¬ x3 = 0 ∧ kM_hasSomebody σ (nI p) (nI b) (nI n) = some (nI (W p b), σ) ∧ W p b ≤ 1)) :
    loopF FU (kM_rooms_s76 x1 (nI n) x3 (nI p)) (nI c, 0, σ) = some (nI (c + fb_sm (W p) (uNp σ p)), σ) := by
  obtain ⟨u, u1, u2, -, u4, u5, u6⟩ := units_in hI hr
  have hu : uNp σ p = u := u4.symm
  rw [hu] at hW ⊢
  have hj : ∀ c b : Int32, kM_rooms_s76 x1 (nI n) x3 (nI p) (c, b, σ) = kM_rooms_j94 σ x1 (nI n) x3 c (nI p) b (nI u) b := fun c b => by
    by_cases c3 : x1 = 3
    · refine (if_pos c3).trans ((if_pos (inr_ hp)).trans ?_)
      rw [ix_]
      have h33 : mI σ 33 0 p = nI u := u6 (by rw [h31]; exact c3)
      rw [h33]
    · refine (if_neg c3).trans ?_
      rw [u5 (by rw [h31]; exact c3)]
      rfl
  obtain ⟨y, l1, l2⟩ := lp_inv (f := kM_rooms_s76 x1 (nI n) x3 (nI p)) (fun i s => s = (nI (c + fb_sm (W p) i), nI i, σ)) (fun y => y = (nI (c + fb_sm (W p) u), σ)) u (by omega) (fun i s hi hs => by
    subst hs
    refine Or.inl ⟨(nI (c + fb_sm (W p) (i + 1)), nI (i + 1), σ), ?_, rfl⟩
    rw [hj]
    refine (if_neg (nge hi (by omega))).trans ?_
    rcases hW i hi with ⟨e1, e2⟩ | ⟨e1, e2, e3⟩
    · refine (if_pos e1).trans ?_
      rw [fb_sm_succ, e2, nI_1, nI_1, Nat.add_assoc]
    · refine (if_neg e1).trans ((bnd e2).trans ?_)
      by_cases z : W p i = 0
      · rw [z]
        refine (if_pos rfl).trans ?_
        rw [fb_sm_succ, z, nI_1]
        rfl
      · have z1 : W p i = 1 := by omega
        rw [z1]
        refine (if_neg (show ¬ nI 1 = 0 by decide)).trans ?_
        rw [fb_sm_succ, z1, nI_1, nI_1, Nat.add_assoc]) (fun s hs => by
    subst hs
    refine ⟨(nI (c + fb_sm (W p) u), σ), ?_, rfl⟩
    rw [hj]
    exact if_pos (nle (Nat.le_refl u) (by omega))) (s := (nI c, 0, σ)) rfl
  rw [l1, l2]
theorem mrooms_loop (hI : HI σ) (hn : n < 60) (h0 : 0 ≤ x1) (h4 : x1 < 4)
    (hW : ∀ p, p < 16 → oK σ x1 n p = true → ∀ b, b < uNp σ p → (x3 = 0 ∧ W p b = 1) ∨ (¬ x3 = 0 ∧ kM_hasSomebody σ (nI p) (nI b) (nI n) = some (nI (W p b), σ) ∧ W p b ≤ 1)) :
    loopF FU (kM_rooms_s42 x1 (nI n) x3) (0, 0, σ) = some (nI (fb_sm (fun p => if oK σ x1 n p = true then fb_sm (W p) (uNp σ p) else 0) 16), σ) := by
  obtain ⟨y, l1, l2⟩ := lp_inv (f := kM_rooms_s42 x1 (nI n) x3) (fun i s => s = (nI (fb_sm (fun p => if oK σ x1 n p = true then fb_sm (W p) (uNp σ p) else 0) i), nI i, σ)) (fun y => y = (nI (fb_sm (fun p => if oK σ x1 n p = true then fb_sm (W p) (uNp σ p) else 0) 16), σ)) 16 (by omega) (fun i s hi hs => by
    subst hs
    refine Or.inl ⟨(nI (fb_sm (fun p => if oK σ x1 n p = true then fb_sm (W p) (uNp σ p) else 0) (i + 1)), nI (i + 1), σ), ?_, rfl⟩
    refine (if_neg (show ¬ (16 : Int32) ≤ nI i from nge (show i < 16 by omega))).trans ((if_pos (inr_ hi)).trans ?_)
    rw [ix_]
    by_cases c1 : mI σ 31 0 i = x1
    · have hr : isRm σ i = true := (rm_iff hi).mpr ⟨by rw [c1]; exact h0, by rw [c1]; exact h4⟩
      refine (if_pos c1).trans ((bnd (mOpen_in hi hr)).trans ?_)
      by_cases c2 : opn σ i n = true
      · have hk : oK σ x1 n i = true := by simp [oK, c1, c2]
        rw [if_pos c2]
        refine (if_neg (show ¬ ((1 : Int32) = 0) by decide)).trans ((bnd (mrooms_in hI hi hr c1 (hW i hi hk))).trans ?_)
        rw [fb_sm_succ, if_pos hk, ← nI_1]
        rfl
      · rw [if_neg c2]
        refine (if_pos rfl).trans ?_
        rw [fb_sm_succ, if_neg (show ¬ oK σ x1 n i = true by simp [oK, c2]), nI_1]
        rfl
    · refine (if_neg c1).trans ?_
      rw [fb_sm_succ, if_neg (show ¬ oK σ x1 n i = true by simp [oK, c1]), nI_1]
      rfl) (fun s hs => by
    subst hs
    exact ⟨(nI (fb_sm (fun p => if oK σ x1 n p = true then fb_sm (W p) (uNp σ p) else 0) 16), σ), by simp only [kM_rooms_s42, show (16 : Int32) ≤ nI 16 from nle (Nat.le_refl 16), if_true], rfl⟩) (s := (0, 0, σ)) rfl
  rw [l1, l2]
end RMS
