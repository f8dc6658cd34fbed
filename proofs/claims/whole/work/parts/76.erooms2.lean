/-- sums over the places and the units -/
theorem sm_one {P v : Nat} {n : Nat} (h : P < n) : fb_sm (fun p => if p = P then v else 0) n = v := by
  have := fb_sm_upd (fun _ => 0) v h
  rw [fb_sm_const] at this
  omega
theorem sm_none {f : Nat → Nat} : ∀ {n : Nat}, (∀ k, k < n → f k = 0) → fb_sm f n = 0
  | 0, _ => rfl
  | n + 1, h => by rw [fb_sm_succ, sm_none (fun k hk => h k (by omega)), h n (by omega)]
theorem sm_swap (f : Nat → Nat → Nat) (m : Nat) : ∀ n, fb_sm (fun p => fb_sm (fun q => f p q) m) n = fb_sm (fun q => fb_sm (fun p => f p q) n) m
  | 0 => (sm_none (fun _ _ => rfl)).symm
  | n + 1 => by
    rw [fb_sm_succ, sm_swap f m n, ← fb_sm_add]
    rfl
theorem ctsm (p : Nat → Bool) : ∀ n, fb_ct p n = fb_sm (fun k => if p k = true then 1 else 0) n
  | 0 => rfl
  | n + 1 => by rw [fb_ct_succ, ctsm p n]; rfl
/-- at most one -/
theorem ct_one {p : Nat → Bool} {n : Nat} (h : ∀ i j, i < n → j < n → p i = true → p j = true → i = j) : fb_ct p n ≤ 1 := by
  refine Nat.le_of_not_lt fun hc => ?_
  obtain ⟨i, hi, pi, ei⟩ := fb_ct_kth (p := p) (k := 0) (n := n) (by omega)
  obtain ⟨j, hj, pj, ej⟩ := fb_ct_kth (p := p) (k := 1) (n := n) hc
  have := h i j hi hj pi pj
  rw [this, ej] at ei
  omega
def oB (o : Option Nat) (p b : Nat) : Bool := o.elim false (fun s => decide (p = s / 32 ∧ b = s % 32 / 4) || decide (s % 4 = 1 ∧ p = s / 32 + 1 ∧ b = 0))
theorem oB_occ {s p b : Nat} : oB (some s) p b = true ↔ occ s p b := by
  unfold oB occ
  simp
/-- what a promise has of the units of the places, one by one -/
theorem tk1_sum {σ : Mem} {x1 : Int32} {n : Nat} {o : Option Nat} (ho : ∀ s, o = some s → s / 32 < 16 ∧ s % 32 / 4 < uNp σ (s / 32) ∧ (s % 4 = 1 → s / 32 + 1 < 16 ∧ 0 < uNp σ (s / 32 + 1))) :
    fb_sm (fun p => if oK σ x1 n p = true then fb_sm (fun b => if oB o p b = true then 1 else 0) (uNp σ p) else 0) 16 = tk1 σ x1 n o := by
  cases o with
  | none => exact sm_none (fun p _ => by
      by_cases c : oK σ x1 n p = true
      · rw [if_pos c]; exact sm_none (fun b _ => rfl)
      · rw [if_neg c])
  | some s =>
    obtain ⟨h1, h2, h3⟩ := ho s rfl
    have e : ∀ p, p < 16 → (if oK σ x1 n p = true then fb_sm (fun b => if oB (some s) p b = true then 1 else 0) (uNp σ p) else 0) = (if p = s / 32 then (if oK σ x1 n (s / 32) = true then 1 else 0) else 0) + (if p = s / 32 + 1 then (if s % 4 = 1 then (if oK σ x1 n (s / 32 + 1) = true then 1 else 0) else 0) else 0) := fun p hp => by
      by_cases c1 : p = s / 32
      · rw [if_pos c1, if_neg (show ¬ p = s / 32 + 1 by omega), c1, Nat.add_zero]
        by_cases c2 : oK σ x1 n (s / 32) = true
        · rw [if_pos c2, if_pos c2]
          rw [fb_sm_cong (g := fun b => if b = s % 32 / 4 then 1 else 0) (fun b _ => by
            have : (oB (some s) (s / 32) b = true) = (b = s % 32 / 4) := by
              rw [oB_occ]
              unfold occ
              exact propext ⟨fun z => by omega, fun z => Or.inl ⟨rfl, z⟩⟩
            simp only [this])]
          exact sm_one h2
        · rw [if_neg c2, if_neg c2]
      · rw [if_neg c1, Nat.zero_add]
        by_cases c3 : p = s / 32 + 1
        · rw [if_pos c3, c3]
          by_cases c2 : oK σ x1 n (s / 32 + 1) = true
          · rw [if_pos c2, if_pos c2]
            by_cases c4 : s % 4 = 1
            · rw [if_pos c4, fb_sm_cong (g := fun b => if b = 0 then 1 else 0) (fun b _ => by
                have : (oB (some s) (s / 32 + 1) b = true) = (b = 0) := by
                  rw [oB_occ]
                  unfold occ
                  exact propext ⟨fun z => by omega, fun z => Or.inr ⟨c4, rfl, z⟩⟩
                simp only [this])]
              exact sm_one (h3 c4).2
            · rw [if_neg c4]
              refine sm_none (fun b _ => if_neg (fun z => ?_))
              rw [oB_occ] at z
              unfold occ at z
              omega
          · rw [if_neg c2, if_neg c2]
            by_cases c4 : s % 4 = 1
            · rw [if_pos c4]
            · rw [if_neg c4]
        · rw [if_neg c3]
          by_cases c2 : oK σ x1 n p = true
          · rw [if_pos c2]
            refine sm_none (fun b _ => if_neg (fun z => ?_))
            rw [oB_occ] at z
            unfold occ at z
            omega
          · rw [if_neg c2]
    rw [fb_sm_cong e, fb_sm_add, sm_one h1]
    show _ = (if oK σ x1 n (s / 32) = true then 1 else 0) + (if s % 4 = 1 then (if oK σ x1 n (s / 32 + 1) = true then 1 else 0) else 0)
    congr 1
    by_cases c4 : s % 4 = 1
    · exact sm_one (h3 c4).1
    · rw [if_neg c4]
      exact sm_none (fun k _ => by
        by_cases z : k = s / 32 + 1
        · rw [if_pos z]
        · rw [if_neg z])
