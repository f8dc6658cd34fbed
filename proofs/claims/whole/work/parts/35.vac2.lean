theorem kd_nat {σ : Mem} {p : Nat} (hI : HI σ) (h : isRm σ p = true) : ∃ k, k < 4 ∧ mI σ 31 0 p = nI k := by
  rcases kd_of hI h with e | e | e | e
  · exact ⟨0, by omega, e⟩
  · exact ⟨1, by omega, e⟩
  · exact ⟨2, by omega, e⟩
  · exact ⟨3, by omega, e⟩
theorem fu0_no {σ : Mem} {n p b : Nat} {tk : TK} (h : opn σ p n = false) : fu (hvN σ n) tk p b = false := by
  unfold fu
  rw [show (hvN σ n).1 p = opn σ p n from rfl, h]
  rfl
theorem fu0_yes {σ : Mem} {n p b : Nat} (h : opn σ p n = true) : fu (hvN σ n) tk0 p b = decide (b < (hvN σ n).2.2.1 p) := by
  unfold fu
  rw [show (hvN σ n).1 p = opn σ p n from rfl, h]
  simp [tk0]
theorem isFree0 {σ : Mem} {p m : Nat} (hp : p < 16) (hm : m < 64) (h : mI σ 8 0 p = nI m) : kV_isFree σ (nI p) 0 = some (if m.testBit 0 = true then 1 else 0, σ) := isFree_in (b := 0) hp (by omega) hm h
theorem nm1 : ∀ k, k < 17 → nI k ≠ -1 := by decide
/-- the door of an open room -/
theorem dr_of {σ : Mem} {n p : Nat} (h : opn σ p n = true) : (hvN σ n).2.2.2 p = if mI σ 34 0 p = -1 then 99 else ix (mI σ 34 0 p) := by
  show (if opn σ p n = true then (if mI σ 34 0 p = -1 then 99 else ix (mI σ 34 0 p)) else 0) = _
  rw [if_pos h]
theorem kd_N {σ : Mem} {n p : Nat} (h : opn σ p n = true) : (hvN σ n).2.1 p = ix (mI σ 31 0 p) := by
  show (if opn σ p n = true then ix (mI σ 31 0 p) else 0) = _
  rw [if_pos h]
/-- is the room behind the door free, as the class asks it -/
theorem nb_free {τ σ : Mem} {n p : Nat} {tk : TK} (hI : HI σ) (hp : p < 16) (ho : opn σ p n = true) (h8 : ∀ r, r < 16 → r ≠ p → ∃ m, m < 64 ∧ mI τ 8 0 r = nI m ∧ ∀ b, m.testBit b = fu (hvN σ n) tk r b) : kV_isFree τ (mI σ 34 0 p) 0 = some (if pf (hvN σ n) tk p = true then 1 else 0, τ) := by
  obtain ⟨-, -, -, -, -, -, -, hd⟩ := hI p hp
  unfold pf
  rw [dr_of ho]
  rcases hd with e | ⟨e1, e2, -⟩ | ⟨e1, e2, -⟩
  · rw [e, isFree_out (Or.inl (by decide)), if_pos rfl]
    rfl
  · obtain ⟨m, m1, m2, m3⟩ := h8 (p + 1) e1 (by omega)
    rw [e2, isFree0 e1 m1 m2, if_neg (nm1 _ (by omega)), ix_, m3 0]
    simp [e1]
  · obtain ⟨m, m1, m2, m3⟩ := h8 (p - 1) (by omega) (by omega)
    rw [e2, isFree0 (by omega) m1 m2, if_neg (nm1 _ (by omega)), ix_, m3 0]
    simp [show p - 1 < 16 by omega]
theorem begin_step {σ τ : Mem} {n i : Nat} (hI : HI σ) (hn : n < 60) (hi : i < 16) (hF : Fx [8, 9, 10] [(7, 4)] σ τ)
    (h8 : ∀ p, p < i → ∃ m, m < 64 ∧ mI τ 8 0 p = nI m ∧ ∀ b, m.testBit b = fu (hvN σ n) tk0 p b)
    (h9 : ∀ k, k < 4 → mI τ 9 0 k = nI (fb_sm (fun p => if (hvN σ n).2.1 p = k then fc (hvN σ n) tk0 p else 0) i))
    (h10 : ∀ w, w < 5 → mI τ 10 0 w = 0) (h7 : mI τ 7 0 4 = nI (fb_sm (fun p => if 1 ≤ p then (if su (hvN σ n) tk0 (p - 1) = true then 1 else 0) else 0) i)) :
    ∃ τ', kV_begin_s23 (nI n) (nI i, τ) = some (.inl (nI (i + 1), τ')) ∧ Fx [8, 9, 10] [(7, 4)] σ τ' ∧
    (∀ p, p < i + 1 → ∃ m, m < 64 ∧ mI τ' 8 0 p = nI m ∧ ∀ b, m.testBit b = fu (hvN σ n) tk0 p b) ∧
    (∀ k, k < 4 → mI τ' 9 0 k = nI (fb_sm (fun p => if (hvN σ n).2.1 p = k then fc (hvN σ n) tk0 p else 0) (i + 1))) ∧
    (∀ w, w < 5 → mI τ' 10 0 w = 0) ∧ mI τ' 7 0 4 = nI (fb_sm (fun p => if 1 ≤ p then (if su (hvN σ n) tk0 (p - 1) = true then 1 else 0) else 0) (i + 1)) := by
  have hF1 : Fx [8, 9, 10] [(7, 4)] σ (sI τ 8 0 i 0) := hF.sI
  have hI1 := HI.fx hF1 rfl hI
  have hno : opn σ i n = false → ∀ τ1, τ1 = sI τ 8 0 i 0 → Fx [8, 9, 10] [(7, 4)] σ τ1 ∧
    (∀ p, p < i + 1 → ∃ m, m < 64 ∧ mI τ1 8 0 p = nI m ∧ ∀ b, m.testBit b = fu (hvN σ n) tk0 p b) ∧
    (∀ k, k < 4 → mI τ1 9 0 k = nI (fb_sm (fun p => if (hvN σ n).2.1 p = k then fc (hvN σ n) tk0 p else 0) (i + 1))) ∧
    (∀ w, w < 5 → mI τ1 10 0 w = 0) ∧ mI τ1 7 0 4 = nI (fb_sm (fun p => if 1 ≤ p then (if su (hvN σ n) tk0 (p - 1) = true then 1 else 0) else 0) (i + 1)) := by
    rintro ho τ1 rfl
    have hfc : fc (hvN σ n) tk0 i = 0 := fb_ct_zero.mpr (fun b _ => fu0_no ho)
    refine ⟨hF1, fun p hp => ?_, fun k hk => ?_, fun w hw => ?_, ?_⟩
    · by_cases e : p = i
      · subst e
        exact ⟨0, by omega, by rw [mIsI, if_pos ⟨rfl, rfl, rfl⟩]; rfl, fun b => by rw [fu0_no ho]; simp⟩
      · obtain ⟨m, a, b, c⟩ := h8 p (by omega)
        exact ⟨m, a, by rw [mIsI, if_neg (by omega)]; exact b, c⟩
    · rw [mIsI, if_neg (by omega), h9 k hk, fb_sm_succ, hfc]
      simp
    · rw [mIsI, if_neg (by omega), h10 w hw]
    · rw [mIsI, if_neg (by omega), h7, fb_sm_succ]
      have : ¬ su (hvN σ n) tk0 (i - 1) = true ∨ ¬ 1 ≤ i := by
        by_cases h1 : 1 ≤ i
        · left
          intro hs
          have := (su_iff.mp hs).2.1
          rw [show i - 1 + 1 = i by omega, fu0_no ho] at this
          cases this
        · exact Or.inr h1
      rcases this with h1 | h1
      · simp [h1]
      · simp [h1]
  by_cases hr : isRm σ i = true
  · have hr1 : isRm (sI τ 8 0 i 0) i = true := by rw [rm_fx hF1 rfl]; exact hr
    have A1 : kH_roomAt (sI τ 8 0 i 0) (nI i) = some (some i, sI τ 8 0 i 0) := by rw [roomAt_in hI1 hi, if_pos hr1]
    by_cases ho : opn σ i n = true
    · have A2 : kR_isOpen (sI τ 8 0 i 0) i (nI n) = some (1, sI τ 8 0 i 0) := by rw [isOpen_in hI1 hr1 hn, opn_fx hF1 rfl, if_pos ho]
      obtain ⟨u, u1, u2, A3, u3, -, -⟩ := units_in hI1 hr1
      rw [hvS_fx hF1 rfl, ← (hvN_S ho).2.1] at u3
      obtain ⟨k, hk, ek⟩ := kd_nat hI hr
      have hF2 : Fx [8, 9, 10] [(7, 4)] σ (sI (sI τ 8 0 i 0) 8 0 i (nI (2 ^ u - 1))) := hF1.sI
      have hI2 := HI.fx hF2 rfl hI
      have hr2 : isRm (sI (sI τ 8 0 i 0) 8 0 i (nI (2 ^ u - 1))) i = true := by rw [rm_fx hF2 rfl]; exact hr
      obtain ⟨u', v1, v2, A4, v3, -, -⟩ := units_in hI2 hr2
      rw [hvS_fx hF2 rfl, ← (hvN_S ho).2.1] at v3
      obtain rfl : u = u' := by omega
      have A5 : mI (sI (sI τ 8 0 i 0) 8 0 i (nI (2 ^ u - 1))) 20 i 0 = nI k := by rw [((hI2 i hi).2.2.2.2.2.2.1 hr2).1, hF2.I 31 0 i, ek]
      obtain ⟨c, ec⟩ : ∃ c, c = fb_sm (fun p => if (hvN σ n).2.1 p = k then fc (hvN σ n) tk0 p else 0) i := ⟨_, rfl⟩
      have A6 : mI (sI (sI τ 8 0 i 0) 8 0 i (nI (2 ^ u - 1))) 9 0 k = nI c := by rw [mIsI, if_neg (by omega), mIsI, if_neg (by omega), h9 k hk, ec]
      have hF3 : Fx [8, 9, 10] [(7, 4)] σ (sI (sI (sI τ 8 0 i 0) 8 0 i (nI (2 ^ u - 1))) 9 0 k (nI c + nI u)) := hF2.sI
      have hI3 := HI.fx hF3 rfl hI
      have hr3 : isRm (sI (sI (sI τ 8 0 i 0) 8 0 i (nI (2 ^ u - 1))) 9 0 k (nI c + nI u)) i = true := by rw [rm_fx hF3 rfl]; exact hr
      have A7 : mI (sI (sI (sI τ 8 0 i 0) 8 0 i (nI (2 ^ u - 1))) 9 0 k (nI c + nI u)) 20 i 3 = mI σ 34 0 i := by rw [((hI3 i hi).2.2.2.2.2.2.1 hr3).2.2.2.1, hF3.I 34 0 i]
      obtain ⟨f, ef⟩ : ∃ f, f = fb_sm (fun p => if 1 ≤ p then (if su (hvN σ n) tk0 (p - 1) = true then 1 else 0) else 0) i := ⟨_, rfl⟩
      have A8 : mI (sI (sI (sI τ 8 0 i 0) 8 0 i (nI (2 ^ u - 1))) 9 0 k (nI c + nI u)) 7 0 4 = nI f := by rw [mIsI, if_neg (by omega), mIsI, if_neg (by omega), mIsI, if_neg (by omega), h7, ef]
      have hfi : fu (hvN σ n) tk0 i 0 = true := by rw [fu0_yes ho]; simp; omega
      have hx : kV_begin_s23 (nI n) (nI i, τ) = (if nI i ≤ mI σ 34 0 i then some (.inl (nI (i + 1), sI (sI (sI (sI τ 8 0 i 0) 8 0 i (nI (2 ^ u - 1))) 9 0 k (nI c + nI u)) 7 0 4 (nI f))) else (kV_isFree (sI (sI (sI τ 8 0 i 0) 8 0 i (nI (2 ^ u - 1))) 9 0 k (nI c + nI u)) (mI σ 34 0 i) 0).bind (fun x => if x.1 = 0 then some (.inl (nI (i + 1), sI x.2 7 0 4 (nI f))) else some (.inl (nI (i + 1), sI x.2 7 0 4 (nI f + 1))))) := by
        simp only [kV_begin_s23, show ¬ (16 : Int32) ≤ nI i from nge hi, inr_ hi, ix_ (show i < 2 ^ 31 by omega), if_true, if_false, A1, Option.bind_some, Option.elim_some, A2, show ¬ ((1 : Int32) = 0) by decide, A3, (maskI u (by omega)).1, A4, A5, inr_ hk, ix_ (show k < 2 ^ 31 by omega), A6, A7, A8, kV_begin_j116, kV_begin_j117, nI_1, Int32.add_zero]
      have hp8 : ∀ p, p < i + 1 → ∃ m, m < 64 ∧ mI (sI (sI (sI τ 8 0 i 0) 8 0 i (nI (2 ^ u - 1))) 9 0 k (nI c + nI u)) 8 0 p = nI m ∧ ∀ b, m.testBit b = fu (hvN σ n) tk0 p b := fun p hp => by
        by_cases e : p = i
        · subst e
          refine ⟨2 ^ u - 1, (maskI u (by omega)).2, by rw [mIsI, if_neg (by omega), mIsI, if_pos ⟨rfl, rfl, rfl⟩], fun b => ?_⟩
          rw [fu0_yes ho, ← u3, Nat.testBit_two_pow_sub_one]
        · obtain ⟨m, a, b, c⟩ := h8 p (by omega)
          exact ⟨m, a, by rw [mIsI, if_neg (by omega), mIsI, if_neg (by omega), mIsI, if_neg (by omega)]; exact b, c⟩
      have hfin : ∀ v : Int32, v = nI (fb_sm (fun p => if 1 ≤ p then (if su (hvN σ n) tk0 (p - 1) = true then 1 else 0) else 0) (i + 1)) → Fx [8, 9, 10] [(7, 4)] σ (sI (sI (sI (sI τ 8 0 i 0) 8 0 i (nI (2 ^ u - 1))) 9 0 k (nI c + nI u)) 7 0 4 v) ∧
        (∀ p, p < i + 1 → ∃ m, m < 64 ∧ mI (sI (sI (sI (sI τ 8 0 i 0) 8 0 i (nI (2 ^ u - 1))) 9 0 k (nI c + nI u)) 7 0 4 v) 8 0 p = nI m ∧ ∀ b, m.testBit b = fu (hvN σ n) tk0 p b) ∧
        (∀ k', k' < 4 → mI (sI (sI (sI (sI τ 8 0 i 0) 8 0 i (nI (2 ^ u - 1))) 9 0 k (nI c + nI u)) 7 0 4 v) 9 0 k' = nI (fb_sm (fun p => if (hvN σ n).2.1 p = k' then fc (hvN σ n) tk0 p else 0) (i + 1))) ∧
        (∀ w, w < 5 → mI (sI (sI (sI (sI τ 8 0 i 0) 8 0 i (nI (2 ^ u - 1))) 9 0 k (nI c + nI u)) 7 0 4 v) 10 0 w = 0) ∧ mI (sI (sI (sI (sI τ 8 0 i 0) 8 0 i (nI (2 ^ u - 1))) 9 0 k (nI c + nI u)) 7 0 4 v) 7 0 4 = nI (fb_sm (fun p => if 1 ≤ p then (if su (hvN σ n) tk0 (p - 1) = true then 1 else 0) else 0) (i + 1)) := by
        intro v hv
        have hfc : fc (hvN σ n) tk0 i = u := by
          unfold fc
          rw [fb_ct_cong (q := fun b => decide (b < u)) (fun b _ => by rw [fu0_yes ho, ← u3])]
          exact ctI u (by omega)
        have hki : (hvN σ n).2.1 i = k := by rw [kd_N ho, ek, ix_]
        refine ⟨hF3.sI, fun p hp => ?_, fun k' hk' => ?_, fun w hw => ?_, by rw [mIsI, if_pos ⟨rfl, rfl, rfl⟩]; exact hv⟩
        · obtain ⟨m, a, b, c⟩ := hp8 p hp
          exact ⟨m, a, by rw [mIsI, if_neg (by omega)]; exact b, c⟩
        · rw [mIsI, if_neg (by omega), mIsI, fb_sm_succ, hki, hfc]
          by_cases e : k' = k
          · subst e
            rw [if_pos ⟨rfl, rfl, rfl⟩, if_pos rfl, ← ec, nI_add]
          · rw [if_neg (fun z => e z.2.2), mIsI, if_neg (by omega), mIsI, if_neg (by omega), h9 k' hk', if_neg (fun z => e z.symm), Nat.add_zero]
        · rw [mIsI, if_neg (by omega), mIsI, if_neg (by omega), mIsI, if_neg (by omega), mIsI, if_neg (by omega), h10 w hw]
      rw [hx]
      have hq8 : ∀ r, r < 16 → r ≠ i → r < i → ∃ m, m < 64 ∧ mI (sI (sI (sI τ 8 0 i 0) 8 0 i (nI (2 ^ u - 1))) 9 0 k (nI c + nI u)) 8 0 r = nI m ∧ ∀ b, m.testBit b = fu (hvN σ n) tk0 r b := fun r _ _ h => hp8 r (by omega)
      obtain ⟨-, -, -, -, -, -, -, hd⟩ := hI i hi
      have hW := WHN (n := n) hI
      rcases hd with e | ⟨e1, e2, e3, e4, e5⟩ | ⟨e1, e2, e3, e4, e5⟩
      · rw [e, if_neg (by rw [Int32.not_le]; exact Int32.lt_of_lt_of_le (show (-1 : Int32) < 0 by decide) (nI_pos' (by omega))), isFree_out (Or.inl (by decide))]
        simp only [Option.bind_some, if_true]
        refine ⟨_, rfl, hfin _ ?_⟩
        rw [fb_sm_succ, ← ef]
        have : (if 1 ≤ i then (if su (hvN σ n) tk0 (i - 1) = true then 1 else 0) else 0) = 0 := by
          by_cases h1 : 1 ≤ i
          · rw [if_pos h1, if_neg]
            intro hs
            have := (su_both hW hs).2.2.2
            rw [show i - 1 + 1 = i by omega, dr_of ho, e, if_pos rfl] at this
            omega
          · rw [if_neg h1]
        rw [this, Nat.add_zero]
      · rw [e2, if_pos (nle (by omega))]
        refine ⟨_, rfl, hfin _ ?_⟩
        rw [fb_sm_succ, ← ef]
        have : (if 1 ≤ i then (if su (hvN σ n) tk0 (i - 1) = true then 1 else 0) else 0) = 0 := by
          by_cases h1 : 1 ≤ i
          · rw [if_pos h1, if_neg]
            intro hs
            have := (su_both hW hs).2.2.2
            rw [show i - 1 + 1 = i by omega, dr_of ho, e2, if_neg (nm1 _ (by omega)), ix_] at this
            omega
          · rw [if_neg h1]
        rw [this, Nat.add_zero]
      · obtain ⟨m, m1, m2, m3⟩ := hp8 (i - 1) (by omega)
        rw [e2, if_neg (nge (by omega)), isFree0 (by omega) m1 m2, m3 0]
        have hsu : su (hvN σ n) tk0 (i - 1) = fu (hvN σ n) tk0 (i - 1) 0 := by
          cases hf : fu (hvN σ n) tk0 (i - 1) 0 with
          | false => unfold su; rw [hf]; rfl
          | true =>
            refine su_iff.mpr ⟨hf, by rw [show i - 1 + 1 = i by omega]; exact hfi, ?_⟩
            rw [dr_of (fu_iff.mp hf).1, e4, if_neg (nm1 _ (by omega)), ix_]
            omega
        by_cases hf : fu (hvN σ n) tk0 (i - 1) 0 = true
        · rw [if_pos hf]
          simp only [Option.bind_some, show ¬ ((1 : Int32) = 0) by decide, if_false]
          refine ⟨_, rfl, hfin _ ?_⟩
          rw [fb_sm_succ, ← ef, if_pos e1, if_pos (by rw [hsu]; exact hf), nI_1]
        · rw [if_neg hf]
          simp only [Option.bind_some, if_true]
          refine ⟨_, rfl, hfin _ ?_⟩
          rw [fb_sm_succ, ← ef, if_pos e1, if_neg (by rw [hsu]; exact hf), Nat.add_zero]
    · have ho' : opn σ i n = false := by simpa using ho
      have A2 : kR_isOpen (sI τ 8 0 i 0) i (nI n) = some (0, sI τ 8 0 i 0) := by rw [isOpen_in hI1 hr1 hn, opn_fx hF1 rfl, if_neg ho]
      refine ⟨sI τ 8 0 i 0, ?_, hno ho' _ rfl⟩
      simp only [kV_begin_s23, show ¬ (16 : Int32) ≤ nI i from nge hi, inr_ hi, ix_ (show i < 2 ^ 31 by omega), if_true, if_false, A1, Option.bind_some, Option.elim_some, A2, nI_1]
  · have ho' : opn σ i n = false := by
      cases e : opn σ i n with
      | false => rfl
      | true => exact absurd (opn_rm e) hr
    have A1 : kH_roomAt (sI τ 8 0 i 0) (nI i) = some (none, sI τ 8 0 i 0) := by rw [roomAt_in hI1 hi, rm_fx hF1 rfl, if_neg hr]
    refine ⟨sI τ 8 0 i 0, ?_, hno ho' _ rfl⟩
    simp only [kV_begin_s23, show ¬ (16 : Int32) ≤ nI i from nge hi, inr_ hi, ix_ (show i < 2 ^ 31 by omega), if_true, if_false, A1, Option.bind_some, Option.elim_none, nI_1]
theorem begin_ok {σ : Mem} {n : Nat} (hI : HI σ) (hn : n < 60) : ∃ σ', kV_begin σ (nI n) = some ((), σ') ∧ Fx [8, 9, 10] [(7, 4)] σ σ' ∧ VR σ' (hvN σ n) tk0 (fun _ => 0) := by
  unfold kV_begin kJ_fill
  simp only [Option.bind_some]
  obtain ⟨e, he, hF, h8, h9, h10, h7⟩ := lp_inv (f := kV_begin_s23 (nI n)) (fun i s => ∃ τ, s = (nI i, τ) ∧ Fx [8, 9, 10] [(7, 4)] σ τ ∧
    (∀ p, p < i → ∃ m, m < 64 ∧ mI τ 8 0 p = nI m ∧ ∀ b, m.testBit b = fu (hvN σ n) tk0 p b) ∧
    (∀ k, k < 4 → mI τ 9 0 k = nI (fb_sm (fun p => if (hvN σ n).2.1 p = k then fc (hvN σ n) tk0 p else 0) i)) ∧
    (∀ w, w < 5 → mI τ 10 0 w = 0) ∧ mI τ 7 0 4 = nI (fb_sm (fun p => if 1 ≤ p then (if su (hvN σ n) tk0 (p - 1) = true then 1 else 0) else 0) i)) (fun τ => Fx [8, 9, 10] [(7, 4)] σ τ ∧
    (∀ p, p < 16 → ∃ m, m < 64 ∧ mI τ 8 0 p = nI m ∧ ∀ b, m.testBit b = fu (hvN σ n) tk0 p b) ∧
    (∀ k, k < 4 → mI τ 9 0 k = nI (fb_sm (fun p => if (hvN σ n).2.1 p = k then fc (hvN σ n) tk0 p else 0) 16)) ∧
    (∀ w, w < 5 → mI τ 10 0 w = 0) ∧ mI τ 7 0 4 = nI (fb_sm (fun p => if 1 ≤ p then (if su (hvN σ n) tk0 (p - 1) = true then 1 else 0) else 0) 16)) 16 (by omega) (fun i s hi hs => by
      obtain ⟨τ, rfl, a1, a2, a3, a4, a5⟩ := hs
      obtain ⟨τ', b0, b1⟩ := begin_step hI hn hi a1 a2 a3 a4 a5
      exact Or.inl ⟨_, b0, τ', rfl, b1⟩) (fun s hs => by
      obtain ⟨τ, rfl, a⟩ := hs
      exact ⟨τ, by simp only [kV_begin_s23, show (16 : Int32) ≤ nI 16 from nle (Nat.le_refl 16), if_true], a⟩) (s := (0, sI (fillI (fillI σ 9 0 4 0) 10 0 5 0) 7 0 4 0)) ⟨_, rfl, ((Fx.rf.fI).fI).sI, fun p hp => by omega, fun k hk => by rw [mIsI, if_neg (by omega), mIfI, if_neg (by omega), mIfI, if_pos ⟨rfl, rfl, hk⟩]; rfl, fun w hw => by rw [mIsI, if_neg (by omega), mIfI, if_pos ⟨rfl, rfl, hw⟩], by rw [mIsI, if_pos ⟨rfl, rfl, rfl⟩]; rfl⟩
  rw [he]
  refine ⟨e, rfl, hF, h8, h9, h10, ?_⟩
  rw [h7, sm_shift (fun p => if su (hvN σ n) tk0 p = true then 1 else 0) 15, ← ct_sm]
  have h15 : su (hvN σ n) tk0 15 = false := by
    cases e : su (hvN σ n) tk0 15 with
    | false => rfl
    | true => have := (su_both (WHN hI) e).1; omega
  unfold FS
  rw [fb_ct_succ _ 15, h15]
  rfl
