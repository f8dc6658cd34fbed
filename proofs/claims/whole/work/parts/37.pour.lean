theorem jminN {a b : Nat} (ha : a < 2 ^ 31) (hb : b < 2 ^ 31) : jmin (nI a) (nI b) = nI (min a b) := by
  show (if nI b < nI a then nI b else nI a) = _
  by_cases h : b < a
  · rw [if_pos (nI_lt h ha), Nat.min_eq_right (by omega)]
  · rw [if_neg (nI_nlt (by omega) hb), Nat.min_eq_left (by omega)]
theorem jmaxN {a b : Nat} (ha : a < 2 ^ 31) (hb : b < 2 ^ 31) : jmax (nI a) (nI b) = nI (max a b) := by
  show (if nI a < nI b then nI b else nI a) = _
  by_cases h : a < b
  · rw [if_pos (nI_lt h hb), Nat.max_eq_right (by omega)]
  · rw [if_neg (nI_nlt (by omega) ha), Nat.max_eq_left (by omega)]
theorem jmax0 {a b : Nat} (ha : a < 2 ^ 30) (hb : b < 2 ^ 30) : jmax 0 (nI a - nI b) = nI (a - b) := by
  show (if (0 : Int32) < nI a - nI b then nI a - nI b else 0) = _
  by_cases h : b < a
  · rw [pk_sub (by omega), if_pos (show (0 : Int32) < nI (a - b) from nI_lt (a := 0) (by omega) (by omega))]
  · by_cases e : a = b
    · subst e
      rw [pk_sub (Nat.le_refl a), Nat.sub_self, if_neg (by decide)]
      rfl
    · rw [if_neg (Int32.not_lt.mpr (Int32.le_of_lt (pk_sneg hb (by omega)))), show a - b = 0 by omega]
      rfl
theorem less_nI {σ : Mem} {a b : Nat} (ha : a < 2 ^ 31) (hb : b < 2 ^ 31) : kM_less σ (nI a) (nI b) = some (nI (min a b), σ) := by
  unfold kM_less
  by_cases h : b ≤ a
  · rw [if_pos (nI_le h ha), Nat.min_eq_right h]
  · rw [if_neg (nI_ge (by omega) hb), Nat.min_eq_left (by omega)]
def pour (H : HV) (tk : TK) (a : ND) (s : Nat) : Nat :=
  min s (FS H tk) + min (a 0) (FK H tk 3) + min (a 3) (FK H tk 2) + (min (a 2) (FK H tk 1 - 2 * min s (FS H tk)) + min (a 2 - min (a 2) (FK H tk 1 - 2 * min s (FS H tk))) (FK H tk 2 - min (a 3) (FK H tk 2))) +
  min (a 1) (FK H tk 0 + (FK H tk 1 - 2 * min s (FS H tk)) - min (a 2) (FK H tk 1 - 2 * min s (FS H tk)) + (FK H tk 2 - min (a 3) (FK H tk 2)) - min (a 2 - min (a 2) (FK H tk 1 - 2 * min s (FS H tk))) (FK H tk 2 - min (a 3) (FK H tk 2)))
def tot (a : ND) : Nat := a 0 + a 1 + a 2 + a 3 + a 4
theorem pour_fit {H : HV} {tk : TK} {a : ND} (hW : WH H) : pour H tk a (a 4) = tot a ↔ fit H tk a = true := by
  have h1 := F1_ge (tk := tk) hW
  unfold pour tot fit
  simp only [decide_eq_true_eq]
  generalize FK H tk 0 = f0 at *
  generalize FK H tk 1 = f1 at *
  generalize FK H tk 2 = f2 at *
  generalize FK H tk 3 = f3 at *
  generalize FS H tk = fs at *
  generalize a 0 = a0
  generalize a 1 = a1
  generalize a 2 = a2
  generalize a 3 = a3
  generalize a 4 = a4
  omega
/-- the reference's rows of what is taken -/
def MR (σ : Mem) (n : Nat) (tk : TK) : Prop := mI σ 30 0 22 = nI n ∧ ∀ p, p < 16 → ∃ m, m < 64 ∧ mI σ 51 0 p = nI m ∧ (∀ b, m.testBit b = tk p b) ∧ (mI σ 31 0 p ≠ 3 → m < 2)
theorem ct_cut (f : Nat → Bool) {u : Nat} : ∀ n, u ≤ n → fb_ct (fun b => decide (b < u) && f b) n = fb_ct f u := by
  intro n
  induction n with
  | zero => intro h; (obtain rfl : u = 0 := by omega); rfl
  | succ n ih =>
    intro h
    by_cases e : u = n + 1
    · subst e
      exact fb_ct_cong (fun k hk => by simp [hk])
    · rw [fb_ct_succ, ih (by omega)]
      simp [show ¬ n < u by omega]
theorem mFree {σ : Mem} {n p : Nat} {tk : TK} (hI : HI σ) (hM : MR σ n tk) (hp : p < 16) (hr : isRm σ p = true) (h3 : mI σ 31 0 p ≠ 3) : kM_isFree σ (nI p) = some (if fu (hvN σ n) tk p 0 = true then 1 else 0, σ) := by
  obtain ⟨hn, hT⟩ := hM
  obtain ⟨m, m1, m2, m3, m4⟩ := hT p hp
  unfold kM_isFree
  rw [hn, mOpen_in hp hr]
  by_cases ho : opn σ p n = true
  · rw [if_pos ho]
    simp only [Option.bind_some, show ¬ ((1 : Int32) = 0) by decide, if_false, inr_ hp, if_true, ix_ (show p < 2 ^ 31 by omega), m2]
    have hm2 := m4 h3
    have hu : (hvN σ n).2.2.1 p = 1 := by
      show (if opn σ p n = true then (if mI σ 31 0 p = 3 then ix (mI σ 33 0 p) else 1) else 0) = 1
      rw [if_pos ho, if_neg h3]
    have hfu : fu (hvN σ n) tk p 0 = !tk p 0 := by
      unfold fu
      rw [hu, show (hvN σ n).1 p = opn σ p n from rfl, ho]
      simp
    rw [hfu, ← m3 0]
    rcases (show m = 0 ∨ m = 1 by omega) with rfl | rfl
    · rfl
    · rfl
  · rw [if_neg ho]
    have hfu : fu (hvN σ n) tk p 0 = false := fu0_no (by simpa using ho)
    rw [hfu]
    rfl
theorem poured_step {σ : Mem} {n i : Nat} {tk : TK} {x1 : Int32} (hI : HI σ) (hM : MR σ n tk) (hi : i < 16) {s3 s0 s1 s2 d : Nat} :
    kM_poured_s16 x1 (nI s3, nI s0, nI s1, nI s2, nI d, nI i, σ) = some (.inl (nI (s3 + (if (hvN σ n).2.1 i = 3 then fc (hvN σ n) tk i else 0)), nI (s0 + (if (hvN σ n).2.1 i = 0 then fc (hvN σ n) tk i else 0)), nI (s1 + (if (hvN σ n).2.1 i = 1 then fc (hvN σ n) tk i else 0)), nI (s2 + (if (hvN σ n).2.1 i = 2 then fc (hvN σ n) tk i else 0)), nI (d + (if su (hvN σ n) tk i = true then 1 else 0)), nI (i + 1), σ)) := by
  have hM' := hM
  obtain ⟨hn, hT⟩ := hM
  obtain ⟨m, m1, m2, m3, m4⟩ := hT i hi
  have hclosed : opn σ i n = false → (fc (hvN σ n) tk i = 0 ∧ su (hvN σ n) tk i = false) := fun ho => by
    refine ⟨fb_ct_zero.mpr (fun b _ => fu0_no ho), ?_⟩
    unfold su
    rw [fu0_no ho]
    rfl
  by_cases hr : isRm σ i = true
  · have A1 : kM_isRoom σ (nI i) = some (1, σ) := by rw [mRoom_in hi, if_pos hr]
    by_cases ho : opn σ i n = true
    · have A2 : kM_isOpen σ (nI i) (nI n) = some (1, σ) := by rw [mOpen_in hi hr, if_pos ho]
      have hkd := kd_N (n := n) ho
      by_cases h3 : mI σ 31 0 i = 3
      · obtain ⟨u, u1, u2, -, u3, -, u4⟩ := units_in hI hr
        rw [← (hvN_S ho).2.1] at u3
        have hk3 : (hvN σ n).2.1 i = 3 := by rw [hkd, h3]; rfl
        have hfc : fc (hvN σ n) tk i = fb_ct (fun b => !tk i b) u := by
          unfold fc
          rw [← ct_cut (fun b => !tk i b) 6 u2]
          refine fb_ct_cong (fun b _ => ?_)
          unfold fu
          rw [show (hvN σ n).1 i = opn σ i n from rfl, ho, ← u3]
          simp
        have hloop : loopF FU (kM_poured_s62 x1 (nI s0) (nI s1) (nI s2) (nI d) (nI i)) (nI s3, 0, σ) = some (nI (s3 + fc (hvN σ n) tk i), σ) := by
          rw [hfc]
          refine lp_eq (fun j => (nI (s3 + fb_ct (fun b => !tk i b) j), nI j, σ)) _ u (by omega) (fun j hj => ?_) ?_
          · simp only [kM_poured_s62, inr_ hi, if_true, ix_ (show i < 2 ^ 31 by omega), u4 h3, nge hj (by omega), if_false, m2, bitI m m1 j (by omega), m3 j]
            by_cases e : tk i j = true
            · rw [if_pos e, if_neg (by decide), fb_ct_succ, nI_1]
              simp [e]
            · rw [if_neg e, if_pos rfl, fb_ct_succ, nI_1, nI_1]
              simp [e]
              rfl
          · simp only [kM_poured_s62, inr_ hi, if_true, ix_ (show i < 2 ^ 31 by omega), u4 h3, nle (Nat.le_refl u) (by omega)]
        have hs : su (hvN σ n) tk i = false := by
          cases e : su (hvN σ n) tk i with
          | false => rfl
          | true => have := (su_both (WHN hI) e).2.1; omega
        simp only [kM_poured_s16, show ¬ (16 : Int32) ≤ nI i from nge hi, if_false, A1, Option.bind_some, show ¬ ((1 : Int32) = 0) by decide, hn, A2, inr_ hi, if_true, ix_ (show i < 2 ^ 31 by omega), h3, hloop, kM_poured_x98, nI_1, hk3, hs]
        simp
      · have hm2 := m4 h3
        have hu : (hvN σ n).2.2.1 i = 1 := by
          show (if opn σ i n = true then (if mI σ 31 0 i = 3 then ix (mI σ 33 0 i) else 1) else 0) = 1
          rw [if_pos ho, if_neg h3]
        have hfc := fc_le (tk := tk) hu
        have hfu : fu (hvN σ n) tk i 0 = !tk i 0 := by
          unfold fu
          rw [hu, show (hvN σ n).1 i = opn σ i n from rfl, ho]
          simp
        rcases (show m = 0 ∨ m = 1 by omega) with rfl | rfl
        · have hf1 : fu (hvN σ n) tk i 0 = true := by
            rw [hfu, ← m3 0]
            rfl
          rw [if_pos hf1] at hfc
          have m0 : mI σ 51 0 i = 0 := m2
          have hdoor : ∀ (a b c e f : Int32), mI σ 31 0 i = 1 → kM_poured_j147 σ x1 a b c e f (nI i) = some (.inl (a, b, c, e, f + (if su (hvN σ n) tk i = true then 1 else 0), nI (i + 1), σ)) := by
            intro a b c e f hk1
            obtain ⟨-, -, -, -, -, -, -, hd⟩ := hI i hi
            rcases hd with g | ⟨g1, g2, g3, g4, g5⟩ | ⟨g1, g2, g3, g4, g5⟩
            · have hs : su (hvN σ n) tk i = false := by
                cases e : su (hvN σ n) tk i with
                | false => rfl
                | true =>
                  have := (su_iff.mp e).2.2
                  rw [dr_of ho, g, if_pos rfl] at this
                  omega
              have hle : (-1 : Int32) ≤ nI i := Int32.le_of_lt (Int32.lt_of_lt_of_le (show (-1 : Int32) < 0 by decide) (nI_pos' (by omega)))
              simp only [kM_poured_j147, inr_ hi, if_true, ix_ (show i < 2 ^ 31 by omega), hk1, g, hle, hs, nI_1]
              simp
            · have hr2 : isRm σ (i + 1) = true := rm_kd g1 (by simp [g5])
              have A9 := mFree (p := i + 1) hI hM' g1 hr2 (by rw [g5]; decide)
              have hs : su (hvN σ n) tk i = fu (hvN σ n) tk (i + 1) 0 := by
                unfold su
                rw [hf1, dr_of ho, g2, if_neg (nm1 _ (by omega)), ix_]
                simp
              simp only [kM_poured_j147, inr_ hi, if_true, ix_ (show i < 2 ^ 31 by omega), hk1, g2, nge (show i < i + 1 by omega) (by omega), if_false, A9, Option.bind_some, hs]
              by_cases e : fu (hvN σ n) tk (i + 1) 0 = true
              · simp only [e, if_true, show ¬ ((1 : Int32) = 0) by decide, if_false, nI_1]
              · simp only [e, if_true, if_false, nI_1, Int32.add_zero]
                simp
            · have hs : su (hvN σ n) tk i = false := by
                cases e : su (hvN σ n) tk i with
                | false => rfl
                | true =>
                  have := (su_iff.mp e).2.2
                  rw [dr_of ho, g2, if_neg (nm1 _ (by omega)), ix_] at this
                  omega
              simp only [kM_poured_j147, inr_ hi, if_true, ix_ (show i < 2 ^ 31 by omega), hk1, g2, nle (show i - 1 ≤ i by omega) (by omega), hs, nI_1]
              simp
          have hnod : mI σ 31 0 i ≠ 1 → su (hvN σ n) tk i = false ∧ ∀ (a b c e f : Int32), kM_poured_j147 σ x1 a b c e f (nI i) = some (.inl (a, b, c, e, f, nI (i + 1), σ)) := fun h1 => by
            refine ⟨?_, fun a b c e f => ?_⟩
            · cases e : su (hvN σ n) tk i with
              | false => rfl
              | true =>
                have := (su_both (WHN hI) e).2.1
                rw [hkd] at this
                rcases kd_of hI hr with k | k | k | k
                · rw [k] at this; exact absurd this (by decide)
                · exact absurd k h1
                · rw [k] at this; exact absurd this (by decide)
                · exact absurd k h3
            · simp only [kM_poured_j147, inr_ hi, if_true, ix_ (show i < 2 ^ 31 by omega), h1, if_false, nI_1]
          rcases kd_of hI hr with k | k | k | k
          · obtain ⟨n1, n2⟩ := hnod (by rw [k]; decide)
            have hk0 : (hvN σ n).2.1 i = 0 := by rw [hkd, k]; rfl
            simp only [kM_poured_s16, show ¬ (16 : Int32) ≤ nI i from nge hi, if_false, A1, Option.bind_some, show ¬ ((1 : Int32) = 0) by decide, hn, A2, inr_ hi, if_true, ix_ (show i < 2 ^ 31 by omega), k, show ¬ ((0 : Int32) = 3) by decide, m0, n2, nI_1, hk0, hfc, n1]
            simp
          · have hk0 : (hvN σ n).2.1 i = 1 := by rw [hkd, k]; rfl
            simp only [kM_poured_s16, show ¬ (16 : Int32) ≤ nI i from nge hi, if_false, A1, Option.bind_some, show ¬ ((1 : Int32) = 0) by decide, hn, A2, inr_ hi, if_true, ix_ (show i < 2 ^ 31 by omega), k, show ¬ ((1 : Int32) = 3) by decide, m0, show ¬ ((1 : Int32) = 2) by decide, hdoor _ _ _ _ _ k, nI_1, hk0, hfc]
            by_cases e : su (hvN σ n) tk i = true
            · simp [e, nI_1]
            · simp [e]
          · obtain ⟨n1, n2⟩ := hnod (by rw [k]; decide)
            have hk0 : (hvN σ n).2.1 i = 2 := by rw [hkd, k]; rfl
            simp only [kM_poured_s16, show ¬ (16 : Int32) ≤ nI i from nge hi, if_false, A1, Option.bind_some, show ¬ ((1 : Int32) = 0) by decide, hn, A2, inr_ hi, if_true, ix_ (show i < 2 ^ 31 by omega), k, show ¬ ((2 : Int32) = 3) by decide, m0, show ¬ ((2 : Int32) = 0) by decide, n2, nI_1, hk0, hfc, n1]
            simp
          · exact absurd k h3
        · have hf1 : fu (hvN σ n) tk i 0 = false := by
            rw [hfu, ← m3 0]
            rfl
          rw [hf1] at hfc
          have hs : su (hvN σ n) tk i = false := by
            unfold su
            rw [hf1]
            rfl
          simp only [kM_poured_s16, show ¬ (16 : Int32) ≤ nI i from nge hi, if_false, A1, Option.bind_some, show ¬ ((1 : Int32) = 0) by decide, hn, A2, inr_ hi, if_true, ix_ (show i < 2 ^ 31 by omega), h3, m2, show ¬ (nI 1 = 0) by decide, nI_1, hfc, hs]
          simp
    · have ho' : opn σ i n = false := by simpa using ho
      obtain ⟨g1, g2⟩ := hclosed ho'
      have A2 : kM_isOpen σ (nI i) (nI n) = some (0, σ) := by rw [mOpen_in hi hr, if_neg ho]
      simp only [kM_poured_s16, show ¬ (16 : Int32) ≤ nI i from nge hi, if_false, A1, Option.bind_some, show ¬ ((1 : Int32) = 0) by decide, hn, A2, if_true, nI_1, g1, g2]
      simp
  · have A1 : kM_isRoom σ (nI i) = some (0, σ) := by rw [mRoom_in hi, if_neg hr]
    have ho' : opn σ i n = false := by
      cases e : opn σ i n with
      | false => rfl
      | true => exact absurd (opn_rm e) hr
    obtain ⟨g1, g2⟩ := hclosed ho'
    simp only [kM_poured_s16, show ¬ (16 : Int32) ≤ nI i from nge hi, if_false, A1, Option.bind_some, if_true, nI_1, g1, g2]
    simp
theorem poured_ok {σ : Mem} {n s : Nat} {tk : TK} {a : ND} (hI : HI σ) (hM : MR σ n tk) (ha : ∀ w, w < 5 → mI σ 54 0 w = nI (a w)) (hb : ∀ w, w < 5 → a w ≤ 300) (hs : s ≤ 300) : kM_poured σ (nI s) = some (nI (pour (hvN σ n) tk a s), σ) := by
  have hloop : loopF FU (kM_poured_s16 (nI s)) (0, 0, 0, 0, 0, 0, σ) = some (nI (FK (hvN σ n) tk 3), nI (FK (hvN σ n) tk 0), nI (FK (hvN σ n) tk 1), nI (FK (hvN σ n) tk 2), nI (FS (hvN σ n) tk), σ) := by
    refine lp_eq (fun i => (nI (fb_sm (fun p => if (hvN σ n).2.1 p = 3 then fc (hvN σ n) tk p else 0) i), nI (fb_sm (fun p => if (hvN σ n).2.1 p = 0 then fc (hvN σ n) tk p else 0) i), nI (fb_sm (fun p => if (hvN σ n).2.1 p = 1 then fc (hvN σ n) tk p else 0) i), nI (fb_sm (fun p => if (hvN σ n).2.1 p = 2 then fc (hvN σ n) tk p else 0) i), nI (fb_ct (su (hvN σ n) tk) i), nI i, σ)) _ 16 (by omega) (fun i hi => ?_) ?_
    · rw [poured_step hI hM hi]
      rfl
    · simp only [kM_poured_s16, show (16 : Int32) ≤ nI 16 from nle (Nat.le_refl 16), if_true]
      rfl
  obtain ⟨i1, i2, i3, i4, i5, i6, i7, i8, i9⟩ := inr_lit
  obtain ⟨x0, x1, x2, x3, x4⟩ := ix_lit
  have g0 := FK_le (H := hvN σ n) (tk := tk) (k := 0)
  have g1 := FK_le (H := hvN σ n) (tk := tk) (k := 1)
  have g2 := FK_le (H := hvN σ n) (tk := tk) (k := 2)
  have g3 := FK_le (H := hvN σ n) (tk := tk) (k := 3)
  have gs := FS_le (H := hvN σ n) (tk := tk)
  have gF := F1_ge (tk := tk) (WHN (n := n) hI)
  have b0 := hb 0 (by omega)
  have b1 := hb 1 (by omega)
  have b2 := hb 2 (by omega)
  have b3 := hb 3 (by omega)
  unfold kM_poured
  rw [hloop]
  unfold kM_poured_x193 pour
  have e0 := ha 0 (by omega)
  have e1 := ha 1 (by omega)
  have e2 := ha 2 (by omega)
  have e3 := ha 3 (by omega)
  simp only [Option.bind_some, i1, i2, i3, i4, if_true, x0, x1, x2, x3]
  generalize FK (hvN σ n) tk 0 = f0 at *
  generalize FK (hvN σ n) tk 1 = f1 at *
  generalize FK (hvN σ n) tk 2 = f2 at *
  generalize FK (hvN σ n) tk 3 = f3 at *
  generalize FS (hvN σ n) tk = fs at *
  generalize a 0 = a0 at *
  generalize a 1 = a1 at *
  generalize a 2 = a2 at *
  generalize a 3 = a3 at *
  rw [less_nI (by omega) (by omega)]
  simp only [Option.bind_some]
  rw [e0, less_nI (by omega) (by omega)]
  simp only [Option.bind_some]
  rw [e3, less_nI (by omega) (by omega)]
  simp only [Option.bind_some]
  rw [e2, show (2 : Int32) = nI 2 from rfl, pk_mul, pk_sub (by omega), less_nI (by omega) (by omega)]
  simp only [Option.bind_some]
  rw [e2, pk_sub (by omega), pk_sub (by omega), less_nI (by omega) (by omega)]
  simp only [Option.bind_some]
  rw [e1, nI_add, pk_sub (by omega), nI_add, pk_sub (by omega), less_nI (by omega) (by omega)]
  simp only [Option.bind_some, nI_add]
