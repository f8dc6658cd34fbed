theorem bitL {s n : Nat} (hn : n < 64) : ((lN s >>> ((nI n).toInt64 &&& 63)) &&& 1) = if s.testBit n = true then 1 else 0 := by
  have h1 : (lN s >>> ((nI n).toInt64 &&& 63)).toBitVec.getLsbD 0 = s.testBit n := by
    rw [wb_c n hn, Int64.toBitVec_shiftRight]
    show ((lN s).toBitVec.sshiftRight ((lN n).toBitVec.smod 64).toNat).getLsbD 0 = _
    rw [wb_tb, wb_tb, wb_sm n hn, BitVec.getLsbD_sshiftRight, BitVec.toNat_ofNat, Nat.mod_eq_of_lt (show n < 2 ^ 64 by omega), if_pos (show n + 0 < 64 by omega), Nat.add_zero, BitVec.getLsbD_ofNat]
    simp [hn]
  apply Int64.toBitVec_inj.mp
  apply BitVec.eq_of_getLsbD_eq
  intro i hi
  rw [Int64.toBitVec_and, BitVec.getLsbD_and]
  have h2 : ∀ j, j < 64 → (1 : Int64).toBitVec.getLsbD j = decide (j = 0) := by decide +kernel
  have h3 : ∀ j, j < 64 → (0 : Int64).toBitVec.getLsbD j = false := by decide +kernel
  rw [h2 i hi]
  by_cases e : i = 0
  · subst e
    rw [h1]
    by_cases t : s.testBit n = true
    · rw [if_pos t, t, h2 0 (by omega)]; rfl
    · rw [if_neg t, h3 0 (by omega)]; simp [t]
  · by_cases t : s.testBit n = true
    · rw [if_pos t, h2 i hi]; simp [e]
    · rw [if_neg t, h3 i hi]; simp [e]
theorem sh_ex (x : Int64) : ∃ s, s < 2 ^ 64 ∧ x = lN s := wb_of x
/-- what a change of one room's calendar keeps -/
theorem HI_cal {σ σ' : Mem} {p : Nat} (hI : HI σ) (hp : p < 16) (hr : isRm σ p = true) (h3 : ∀ j, mR σ' 3 0 j = mR σ 3 0 j) (h4 : ∀ j, mI σ' 4 0 j = mI σ 4 0 j) (hv : ∀ j, mV σ' 20 j = mV σ 20 j)
    (h31 : ∀ j, mI σ' 31 0 j = mI σ 31 0 j) (h32 : ∀ j, mI σ' 32 0 j = mI σ 32 0 j) (h33 : ∀ j, mI σ' 33 0 j = mI σ 33 0 j) (h34 : ∀ j, mI σ' 34 0 j = mI σ 34 0 j) (h20 : ∀ j k, k < 4 → mI σ' 20 j k = mI σ 20 j k)
    (ho : ∀ j, j ≠ p → mI σ' 20 j 4 = mI σ 20 j 4 ∧ mI σ' 20 j 5 = mI σ 20 j 5 ∧ mL σ' 20 j 6 = mL σ 20 j 6 ∧ mI σ' 35 0 j = mI σ 35 0 j ∧ mL σ' 36 0 j = mL σ 36 0 j ∧ mI σ' 37 0 j = mI σ 37 0 j)
    (g1 : mI σ' 37 0 p = 0 ∨ mI σ' 37 0 p = 1) (g2 : mI σ' 20 p 4 = mI σ' 37 0 p) (g3 : mI σ' 37 0 p = 0 → mI σ' 20 p 5 = mI σ' 35 0 p ∧ mL σ' 20 p 6 = mL σ' 36 0 p) (g4 : mI σ' 37 0 p = 1 → mI σ' 20 p 5 = 0 ∧ mL σ' 20 p 6 = 0) (g5 : ∃ o, o ≤ 60 ∧ mI σ' 35 0 p = nI o) : HI σ' := by
  have hrm : ∀ j, isRm σ' j = isRm σ j := fun j => by unfold isRm; rw [h31]
  intro j hj
  obtain ⟨a1, a2, a3, a4, a5, a6, a7, a8⟩ := hI j hj
  unfold HIp
  rw [h31, h3, h4, hv, hrm, h34]
  by_cases e : j = p
  · subst e
    refine ⟨a1, a2, a3, a4, g1, fun h => ?_, fun h => ?_, ?_⟩
    · rw [hr] at h; cases h
    · obtain ⟨f0, f1, f2, f3, f4, f5, f6, f7, f8, f9⟩ := a7 h
      rw [h20 j 0 (by omega), h20 j 1 (by omega), h20 j 2 (by omega), h20 j 3 (by omega), h32, h33]
      exact ⟨f0, f1, f2, f3, g2, g3, g4, f7, g5, f9⟩
    · rw [h34, h34, h31, h31]; exact a8
  · obtain ⟨o1, o2, o3, o4, o5, o6⟩ := ho j e
    rw [o4, o5, o6]
    refine ⟨a1, a2, a3, a4, a5, a6, fun h => ?_, ?_⟩
    · rw [h20 j 0 (by omega), h20 j 1 (by omega), h20 j 2 (by omega), h20 j 3 (by omega), h32, h33, o1, o2, o3]
      exact a7 h
    · rw [h34, h34, h31, h31]; exact a8
theorem HM_cal {σ σ' : Mem} (h31 : ∀ j, mI σ' 31 0 j = mI σ 31 0 j) (h33 : ∀ j, mI σ' 33 0 j = mI σ 33 0 j) (h34 : ∀ j, mI σ' 34 0 j = mI σ 34 0 j) : HM σ σ' := fun p hp => ⟨by unfold isRm; rw [h31]; exact hp, h31 p, h33 p, Or.inl (h34 p)⟩
theorem sp_bit {a e : Nat} (h : a ≤ e) (k : Nat) : (2 ^ e - 2 ^ a).testBit k = (decide (a ≤ k) && decide (k < e)) := by
  have h1 : 2 ^ e - 2 ^ a = 2 ^ a * (2 ^ (e - a) - 1) := by
    rw [Nat.mul_sub, ← Nat.pow_add, Nat.mul_one, show a + (e - a) = e by omega]
  rw [h1, Nat.testBit_two_pow_mul, Nat.testBit_two_pow_sub_one]
  by_cases c : a ≤ k
  · have : k - a < e - a ↔ k < e := by omega
    simp [c, this]
  · simp [c]
theorem mod_bit {t k : Nat} : t % 2 ^ (k + 1) = if t.testBit k = true then (t % 2 ^ k) ^^^ 2 ^ k else t % 2 ^ k := by
  by_cases h : t.testBit k = true
  · rw [if_pos h]
    apply Nat.eq_of_testBit_eq
    intro i
    rw [fb_bit_flip, Nat.testBit_mod_two_pow, Nat.testBit_mod_two_pow]
    by_cases e : i = k
    · subst e; simp [h]
    · by_cases c : i < k
      · simp [e, c, show i < k + 1 by omega]
      · simp [e, c, show ¬ i < k + 1 by omega]
  · rw [if_neg h]
    apply Nat.eq_of_testBit_eq
    intro i
    rw [Nat.testBit_mod_two_pow, Nat.testBit_mod_two_pow]
    by_cases e : i = k
    · subst e; simp [h]
    · by_cases c : i < k
      · simp [c, show i < k + 1 by omega]
      · simp [c, show ¬ i < k + 1 by omega]
theorem span_in {σ : Mem} {a b : Nat} (hab : a ≤ b) (hb : b ≤ 60) : kG_isSpan σ (nI a) (nI b) = some (1, σ) ∧ kM_isSpan σ (nI a) (nI b) = some (1, σ) := by
  have h1 := nI_nlt hab (show b < 2 ^ 31 by omega)
  have h2 : ¬ (60 : Int32) < nI b := nI_nlt (a := 60) hb (by decide)
  unfold kG_isSpan kM_isSpan
  rw [if_neg nn0, if_neg h1, if_neg h2]
  exact ⟨rfl, rfl⟩
theorem span_cases (σ : Mem) (x y : Int32) : (∃ a b, a ≤ b ∧ b ≤ 60 ∧ x = nI a ∧ y = nI b) ∨ (∀ σ, kG_isSpan σ x y = some (0, σ) ∧ kM_isSpan σ x y = some (0, σ)) := by
  by_cases h0 : x < 0
  · right; intro σ; unfold kG_isSpan kM_isSpan; rw [if_pos h0]; exact ⟨rfl, rfl⟩
  · by_cases h1 : y < x
    · right; intro σ; unfold kG_isSpan kM_isSpan; rw [if_neg h0, if_pos h1]; exact ⟨rfl, rfl⟩
    · by_cases h2 : (60 : Int32) < y
      · right; intro σ; unfold kG_isSpan kM_isSpan; rw [if_neg h0, if_neg h1, if_pos h2]; exact ⟨rfl, rfl⟩
      · left
        obtain ⟨a, ha, rfl⟩ := nI_of h0
        have h3 : ¬ y < 0 := fun z => h1 (Int32.lt_of_lt_of_le z (nI_pos' ha))
        obtain ⟨b, hb, rfl⟩ := nI_of h3
        refine ⟨a, b, ?_, ?_, rfl, rfl⟩
        · exact (nI_leI ha hb).mp (Int32.not_lt.mp h1)
        · exact (nI_leI (b := 60) hb (by decide)).mp (Int32.not_lt.mp h2)
/-- the reference's loop over the nights that are shut or not -/
theorem mshut_loop {σ : Mem} {p a b o s T : Nat} {on : Int32} (hp : p < 16) (hab : a ≤ b) (hb : b ≤ 60) (ho : o ≤ 60) (hs : s < 2 ^ 64) (h35 : mI σ 35 0 p = nI o) (h36 : mL σ 36 0 p = lN s) (hon : on = 0 ∨ on = 1)
    (hT : ∀ k, T.testBit k = (decide (a ≤ k ∧ k < min b o) && (s.testBit k != decide (on = 1)))) (hTl : T < 2 ^ 64) :
    ∃ σ', loopF FU (kM_shut_s38 (nI p) (nI b) on) (0, nI a, σ) = some (nI (fb_ct T.testBit (max a (min b o))), σ') ∧ Fx [36] [] σ σ' ∧ (∀ j, j ≠ p → mL σ' 36 0 j = mL σ 36 0 j) ∧ mL σ' 36 0 p = lN (s ^^^ (T % 2 ^ (max a (min b o)))) := by
  obtain ⟨e, he⟩ : ∃ e, e = max a (min b o) := ⟨_, rfl⟩
  rw [← he]
  have hT0 : T % 2 ^ a = 0 := by
    apply Nat.eq_of_testBit_eq
    intro i
    rw [Nat.testBit_mod_two_pow, hT]
    by_cases c : i < a
    · simp [show ¬ a ≤ i by omega]
    · simp [c]
  have hct0 : fb_ct T.testBit a = 0 := fb_ct_zero.mpr (fun k hk => by
    rw [hT]
    simp [show ¬ a ≤ k by omega])
  obtain ⟨r, l1, τ, rfl, l2, l3, l4⟩ := lp_inv (f := kM_shut_s38 (nI p) (nI b) on) (fun j x => ∃ τ, x = (nI (fb_ct T.testBit (a + j)), nI (a + j), τ) ∧ Fx [36] [] σ τ ∧ (∀ j, j ≠ p → mL τ 36 0 j = mL σ 36 0 j) ∧ mL τ 36 0 p = lN (s ^^^ (T % 2 ^ (a + j))))
    (fun r => ∃ τ, r = (nI (fb_ct T.testBit e), τ) ∧ Fx [36] [] σ τ ∧ (∀ j, j ≠ p → mL τ 36 0 j = mL σ 36 0 j) ∧ mL τ 36 0 p = lN (s ^^^ (T % 2 ^ e))) (e - a) (by omega) (fun j x hj hx => by
    obtain ⟨τ, rfl, a1, a2, a3⟩ := hx
    refine Or.inl ?_
    have hbit : (s ^^^ (T % 2 ^ (a + j))).testBit (a + j) = s.testBit (a + j) := by
      rw [Nat.testBit_xor, Nat.testBit_mod_two_pow]
      simp
    have hmb := mod_bit (t := T) (k := a + j)
    have hTk := hT (a + j)
    rw [show (decide (a ≤ a + j ∧ a + j < min b o)) = true by simp; omega, Bool.true_and] at hTk
    have h35t : mI τ 35 0 p = nI o := by rw [a1.I 35 0 p]; exact h35
    simp only [kM_shut_s38, nge (show a + j < b by omega) (by omega), if_false, inr_ hp, if_true, ix_ (show p < 2 ^ 31 by omega), h35t, nge (show a + j < o by omega) (by omega), a3, bitL (show a + j < 64 by omega), hbit, cmp0]
    have hskip : T.testBit (a + j) = false → ∃ s', some (Sum.inl (nI (fb_ct T.testBit (a + j)), nI (a + j) + 1, τ)) = some (Sum.inl (β := Int32 × Mem) s') ∧ ∃ τ', s' = (nI (fb_ct T.testBit (a + (j + 1))), nI (a + (j + 1)), τ') ∧ Fx [36] [] σ τ' ∧ (∀ j, j ≠ p → mL τ' 36 0 j = mL σ 36 0 j) ∧ mL τ' 36 0 p = lN (s ^^^ (T % 2 ^ (a + (j + 1)))) := fun h => by
      refine ⟨_, rfl, τ, ?_, a1, a2, ?_⟩
      · rw [nI_1, show a + (j + 1) = a + j + 1 by omega, fb_ct_succ, h]; rfl
      · rw [show a + (j + 1) = a + j + 1 by omega, hmb, h]
        exact a3
    have hflip : T.testBit (a + j) = true → ∃ s', some (Sum.inl (nI (fb_ct T.testBit (a + j)) + 1, nI (a + j) + 1, sL τ 36 0 p (lN (s ^^^ (T % 2 ^ (a + j))) ^^^ ((1 : Int64) <<< ((nI (a + j)).toInt64 &&& 63))))) = some (Sum.inl (β := Int32 × Mem) s') ∧ ∃ τ', s' = (nI (fb_ct T.testBit (a + (j + 1))), nI (a + (j + 1)), τ') ∧ Fx [36] [] σ τ' ∧ (∀ j, j ≠ p → mL τ' 36 0 j = mL σ 36 0 j) ∧ mL τ' 36 0 p = lN (s ^^^ (T % 2 ^ (a + (j + 1)))) := fun h => by
      refine ⟨_, rfl, sL τ 36 0 p (lN (s ^^^ (T % 2 ^ (a + j))) ^^^ ((1 : Int64) <<< ((nI (a + j)).toInt64 &&& 63))), ?_, a1.sL, fun j' hj' => ?_, ?_⟩
      · rw [nI_1, nI_1, show a + (j + 1) = a + j + 1 by omega, fb_ct_succ, h]; rfl
      · rw [mLsL, if_neg (fun z => hj' z.2.2)]; exact a2 j' hj'
      · rw [mLsL, if_pos ⟨rfl, rfl, rfl⟩, show (1 : Int64) = lN 1 from rfl, wb_shl 1 (show a + j < 64 by omega), Nat.one_mul, fb_xorL, show a + (j + 1) = a + j + 1 by omega, hmb, h, if_pos rfl, Nat.xor_assoc]
    unfold kM_shut_j76
    simp only [inr_ hp, if_true, ix_ (show p < 2 ^ 31 by omega), a3]
    rcases hon with rfl | rfl
    · by_cases t : s.testBit (a + j) = true
      · rw [t] at hTk
        rw [if_pos t, if_pos rfl, if_neg (by decide)]
        exact hflip (by rw [hTk]; decide)
      · have t' : s.testBit (a + j) = false := by simpa using t
        rw [t'] at hTk
        rw [if_neg t, if_neg (by decide), if_pos rfl]
        exact hskip (by rw [hTk]; decide)
    · by_cases t : s.testBit (a + j) = true
      · rw [t] at hTk
        rw [if_pos t, if_pos rfl, if_pos rfl]
        exact hskip (by rw [hTk]; decide)
      · have t' : s.testBit (a + j) = false := by simpa using t
        rw [t'] at hTk
        rw [if_neg t, if_neg (by decide), if_neg (by decide)]
        exact hflip (by rw [hTk]; decide)) (fun x hx => by
    obtain ⟨τ, rfl, a1, a2, a3⟩ := hx
    rw [show a + (e - a) = e by omega] at a3 ⊢
    refine ⟨_, ?_, τ, rfl, a1, a2, a3⟩
    have h35t : mI τ 35 0 p = nI o := by rw [a1.I 35 0 p]; exact h35
    by_cases c : b ≤ e
    · simp only [kM_shut_s38, nle c (by omega), if_true]
    · simp only [kM_shut_s38, nge (show e < b by omega) (by omega), if_false, inr_ hp, if_true, ix_ (show p < 2 ^ 31 by omega), h35t, nle (show o ≤ e by omega) (by omega)]) (s := (0, nI a, σ)) ⟨σ, by rw [Nat.add_zero, hct0]; rfl, Fx.rf, fun _ _ => rfl, by rw [Nat.add_zero, hT0, Nat.xor_zero]; exact h36⟩
  exact ⟨τ, l1, l2, l3, l4⟩
