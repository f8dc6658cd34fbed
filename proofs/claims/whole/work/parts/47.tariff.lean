/-! prices and rules (by the reference's rows) -/
def TI (σ : Mem) (R : Nat) : Prop := R ≤ 8 ∧ mI σ 14 0 2 = nI R ∧ mI σ 30 0 32 = nI R ∧
  (∀ w, w < 5 → ∀ n, n < 60 → mI σ 16 w n = mI σ 57 0 (60 * w + n) ∧ ∃ a, a ≤ 1000000 ∧ mI σ 57 0 (60 * w + n) = nI a) ∧
  (∀ k, k < R → mR σ 17 0 k = some k ∧ mI σ 23 k 0 = mI σ 58 0 k ∧ mI σ 23 k 1 = mI σ 59 0 k ∧ mI σ 23 k 2 = mI σ 60 0 k ∧ mI σ 23 k 3 = mI σ 61 0 k ∧
    (mI σ 58 0 k = 0 ∨ mI σ 58 0 k = 1 ∨ mI σ 58 0 k = 2) ∧ (∃ r, r ≤ 60 ∧ mI σ 59 0 k = nI r) ∧ (mI σ 61 0 k = 0 ∨ mI σ 61 0 k = 1) ∧ (mI σ 58 0 k ≠ 2 → -100 ≤ (mI σ 60 0 k).toInt ∧ (mI σ 60 0 k).toInt ≤ 300)) ∧
  ∀ k, R ≤ k → mV σ 23 k = false ∧ (k < 8 → mR σ 17 0 k = none)
def TT2 : List Nat := [14, 16, 17, 23, 57, 58, 59, 60, 61]
theorem TI.fx {l : List Nat} {m : List (Nat × Nat)} {σ σ' : Mem} {R : Nat} (h : Fx l m σ σ') (hn : nohit TT2 l m = true) (hs : noslot 30 32 l m = true) (hT : TI σ R) : TI σ' R := by
  obtain ⟨a, b, c, d, e, f⟩ := hT
  refine ⟨a, by rw [h.hI hn 14 0 2]; exact b, by rw [h.sI_ 0 hs]; exact c, fun w hw n hn' => ?_, fun k hk => ?_, fun k hk => ?_⟩
  · rw [h.hI hn 16 w n, h.hI hn 57 0]
    exact d w hw n hn'
  · simp only [h.hR hn 17 0, h.hI hn 23 k, h.hI hn 58 0, h.hI hn 59 0, h.hI hn 60 0, h.hI hn 61 0]
    exact e k hk
  · rw [h.V, h.hR hn 17 0]
    exact f k hk
def prc (σ : Mem) (w n : Nat) : Nat := ix (mI σ 57 0 (60 * w + n))
def Sm (σ : Mem) (w a j : Nat) : Nat := fb_sm (fun i => prc σ w (a + i)) j
def rc (σ : Mem) (len ah k : Nat) : Int := if mI σ 61 0 k ≠ 0 ∧ ((mI σ 58 0 k = 0 ∧ mI σ 59 0 k ≤ nI len) ∨ (mI σ 58 0 k = 1 ∧ mI σ 59 0 k ≤ nI ah)) then (mI σ 60 0 k).toInt else 0
def zz (σ : Mem) (R len ah : Nat) : Int := 100 + fb_si (rc σ len ah) R
def cst (σ : Mem) (R d w m n : Nat) : Nat := Sm σ w m (n - m) * (zz σ R (n - m) (m - d)).toNat / 100
def fbd (σ : Mem) (n k : Nat) : Bool := decide (mI σ 61 0 k ≠ 0) && (decide (mI σ 58 0 k = 2) && decide (mI σ 59 0 k + 1 = nI n))
def mE (σ : Mem) (R n : Nat) : Bool := decide (fb_ct (fbd σ n) R = 0)
theorem prc_nI {σ : Mem} {R w n : Nat} (hT : TI σ R) (hw : w < 5) (hn : n < 60) : mI σ 57 0 (60 * w + n) = nI (prc σ w n) ∧ prc σ w n ≤ 1000000 := by
  obtain ⟨-, a, ha, e⟩ := hT.2.2.2.1 w hw n hn
  unfold prc
  rw [e, ix_]
  exact ⟨rfl, ha⟩
theorem sm_cons (f : Nat → Nat) (n : Nat) : fb_sm f (n + 1) = f 0 + fb_sm (fun k => f (k + 1)) n := by
  have := fb_sm_split f 1 n
  rw [Nat.add_comm 1 n] at this
  rw [this]
  show fb_sm f 0 + f 0 + _ = _
  rw [show fb_sm f 0 = 0 from rfl, Nat.zero_add]
  congr 1
  exact fb_sm_cong (fun k _ => by rw [Nat.add_comm])
theorem Sm_dn {σ : Mem} {w s j : Nat} : Sm σ w s (j + 1) = prc σ w s + Sm σ w (s + 1) j := by
  unfold Sm
  rw [sm_cons]
  congr 1
  exact fb_sm_cong (fun k _ => by rw [show s + (k + 1) = s + 1 + k by omega])
theorem Sm_le {σ : Mem} {R w a j : Nat} (hT : TI σ R) (hw : w < 5) (h : a + j ≤ 60) : Sm σ w a j ≤ j * 1000000 := fb_sm_bound (fun k hk => (prc_nI hT hw (by omega)).2)
theorem rc_bd {σ : Mem} {R len ah k : Nat} (hT : TI σ R) (hk : k < R) : -300 ≤ rc σ len ah k ∧ rc σ len ah k ≤ 300 := by
  obtain ⟨-, -, -, -, -, -, -, -, h⟩ := hT.2.2.2.2.1 k hk
  unfold rc
  split
  · rename_i hc
    have h2 : mI σ 58 0 k ≠ 2 := fun z => by
      rcases hc.2 with c | c
      · rw [z] at c; exact absurd c.1 (by decide)
      · rw [z] at c; exact absurd c.1 (by decide)
    have := h h2
    omega
  · omega
theorem zz_bd {σ : Mem} {R len ah : Nat} (hT : TI σ R) : -2300 ≤ zz σ R len ah ∧ zz σ R len ah ≤ 2500 := by
  have := fb_si_bound (f := rc σ len ah) (c := 300) (by omega) (n := R) (fun k hk => rc_bd hT hk)
  have h8 := hT.1
  unfold zz
  have h1 : ((R : Int) * 300) ≤ 2400 := by omega
  omega
theorem cst_bd {σ : Mem} {R d w m n : Nat} (hT : TI σ R) (hw : w < 5) (h : m ≤ n) (hn : n ≤ 60) : Sm σ w m (n - m) * (zz σ R (n - m) (m - d)).toNat ≤ 150000000000 ∧ cst σ R d w m n ≤ 1500000000 := by
  have h1 := Sm_le (a := m) (j := n - m) hT hw (by omega)
  have h2 := (zz_bd (len := n - m) (ah := m - d) hT).2
  have h3 : (zz σ R (n - m) (m - d)).toNat ≤ 2500 := by omega
  have h4 : Sm σ w m (n - m) ≤ 60000000 := by omega
  have h5 : Sm σ w m (n - m) * (zz σ R (n - m) (m - d)).toNat ≤ 60000000 * 2500 := Nat.mul_le_mul h4 h3
  refine ⟨by omega, ?_⟩
  unfold cst
  omega
theorem pct_ok {σ : Mem} {R len ah k : Nat} (hT : TI σ R) (hk : k < R) : kU_percentageOf σ k (nI len) (nI ah) = some (Int32.ofInt (rc σ len ah k), σ) := by
  obtain ⟨-, f0, f1, f2, f3, hs, -, hh, -⟩ := hT.2.2.2.2.1 k hk
  unfold kU_percentageOf kU_percentageOf_j15 kU_percentageOf_j35 kU_percentageOf_j31 kU_percentageOf_j36 rc
  rw [f0, f1, f2, f3]
  have z : Int32.ofInt 0 = 0 := rfl
  have y : Int32.ofInt (mI σ 60 0 k).toInt = mI σ 60 0 k := fb_asI _
  by_cases c1 : mI σ 61 0 k = 0
  · simp [c1, z]
  · rcases hs with e | e | e
    · by_cases c2 : mI σ 59 0 k ≤ nI len
      · simp [c1, e, c2, y]
      · simp [c1, e, c2, z]
    · by_cases c2 : nI ah < mI σ 59 0 k
      · have c3 : ¬ mI σ 59 0 k ≤ nI ah := Int32.not_le.mpr c2
        simp [c1, e, c2, c3, z]
      · have c3 : mI σ 59 0 k ≤ nI ah := Int32.not_lt.mp c2
        simp [c1, e, c2, c3, y]
    · simp [c1, e, z]
theorem i64_of {z : Int} (h1 : 0 ≤ z) (h2 : z < 2147483648) : Int32.ofInt z = nI z.toNat := by
  unfold nI
  rw [← Int32.ofInt_eq_ofNat, Int.toNat_of_nonneg h1]
theorem costBy_ok {σ : Mem} {R len ah S : Nat} (hT : TI σ R) (hS : S * (zz σ R len ah).toNat < 2 ^ 63) : kT_costBy σ (lN S) (nI len) (nI ah) = some (lN (S * (zz σ R len ah).toNat / 100), σ) := by
  have h8 := hT.1
  have hloop : loopF FU (kT_costBy_s7 (lN S) (nI len) (nI ah)) (100, 0, σ) = some (Int32.ofInt (zz σ R len ah), σ) := by
    refine lp_eq (fun i => (Int32.ofInt (100 + fb_si (rc σ len ah) i), nI i, σ)) _ R (by omega) (fun i hi => ?_) ?_
    · simp only [kT_costBy_s7, hT.2.1, nge hi (by omega), if_false, show ¬ (8 : Int32) ≤ nI i from nge (show i < 8 by omega), inr_ (show i < 8 by omega), if_true, ix_ (show i < 2 ^ 31 by omega), (hT.2.2.2.2.1 i hi).1, Option.elim_some, pct_ok hT hi, Option.bind_some, nI_1]
      rw [fb_si_succ, ← Int.add_assoc, ← Int32.ofInt_add]
    · simp only [kT_costBy_s7, hT.2.1, nle (Nat.le_refl R) (by omega), if_true]
      rfl
  unfold kT_costBy
  rw [hloop]
  simp only [Option.bind_some, kT_costBy_x60]
  obtain ⟨z1, z2⟩ := zz_bd (len := len) (ah := ah) hT
  have hm : jmax (Int32.ofInt (zz σ R len ah)) 0 = nI (zz σ R len ah).toNat := by
    show (if Int32.ofInt (zz σ R len ah) < 0 then 0 else Int32.ofInt (zz σ R len ah)) = _
    by_cases e : zz σ R len ah < 0
    · rw [if_pos (by rw [Int32.lt_iff_toInt_lt, fb_ofI (by omega) (by omega)]; exact e), show (zz σ R len ah).toNat = 0 by omega]
      rfl
    · rw [if_neg (by rw [Int32.lt_iff_toInt_lt, fb_ofI (by omega) (by omega)]; exact e), i64_of (by omega) (by omega)]
  rw [hm, nI_l (by omega), lN_mul, show (100 : Int64) = lN 100 from rfl, pk_lDiv hS (by omega) (by omega)]
theorem mayEnd_ok {σ : Mem} {R n : Nat} (hT : TI σ R) : kT_mayEnd σ (nI n) = some (if mE σ R n = true then 1 else 0, σ) := by
  have h8 := hT.1
  unfold kT_mayEnd
  obtain ⟨e, l1, l2⟩ := lp_inv (f := kT_mayEnd_s2 (nI n)) (fun i s => s = (nI i, σ) ∧ ∀ k, k < i → fbd σ n k = false) (fun e => (e = .inl σ ∧ ∃ k, k < R ∧ fbd σ n k = true) ∨ (e = .inr σ ∧ ∀ k, k < R → fbd σ n k = false)) R (by omega) (fun i s hi hs => by
    obtain ⟨rfl, a⟩ := hs
    obtain ⟨r0, f0, f1, f2, f3, hs, -, hh, -⟩ := hT.2.2.2.2.1 i hi
    have hfb : kU_forbidsEnd σ i (nI n) = some (if fbd σ n i = true then 1 else 0, σ) := by
      unfold kU_forbidsEnd fbd
      rw [f0, f1, f3]
      by_cases c1 : mI σ 61 0 i = 0
      · simp [c1]
      · by_cases c2 : mI σ 58 0 i = 2
        · by_cases c3 : nI n = mI σ 59 0 i + 1
          · simp [c1, c2, c3]
          · have c4 : ¬ mI σ 59 0 i + 1 = nI n := fun z => c3 z.symm
            simp [c1, c2, c3, c4]
        · simp [c1, c2]
    simp only [kT_mayEnd_s2, hT.2.1, nge hi (by omega), if_false, show ¬ (8 : Int32) ≤ nI i from nge (show i < 8 by omega), inr_ (show i < 8 by omega), if_true, ix_ (show i < 2 ^ 31 by omega), r0, Option.elim_some, hfb, Option.bind_some]
    by_cases c : fbd σ n i = true
    · rw [if_pos c, if_neg (by decide)]
      exact Or.inr ⟨_, rfl, Or.inl ⟨rfl, i, hi, c⟩⟩
    · rw [if_neg c, if_pos rfl]
      refine Or.inl ⟨_, rfl, by rw [nI_1], fun k hk => ?_⟩
      by_cases e : k = i
      · rw [e]; simpa using c
      · exact a k (by omega)) (fun s hs => by
    obtain ⟨rfl, a⟩ := hs
    exact ⟨.inr σ, by simp only [kT_mayEnd_s2, hT.2.1, nle (Nat.le_refl R) (by omega), if_true], Or.inr ⟨rfl, a⟩⟩) (s := (0, σ)) ⟨rfl, fun k hk => by omega⟩
  rw [l1]
  unfold mE
  rcases l2 with ⟨rfl, k, hk, h⟩ | ⟨rfl, h⟩
  · have : ¬ fb_ct (fbd σ n) R = 0 := fun z => by
      have := fb_ct_zero.mp z k hk
      rw [h] at this
      cases this
    simp [this, kT_mayEnd_x35]
  · have := fb_ct_zero.mpr h
    simp [this, kT_mayEnd_x43]
theorem mcost_ok {σ : Mem} {R d w a b : Nat} (hT : TI σ R) (hday : mI σ 30 0 8 = nI d) (hw : w < 5) (hd : d ≤ a) (hab : a < b) (hb : b ≤ 60) : kM_costOf σ (nI w) (nI a) (nI b) = some (if mE σ R b = true then lN (cst σ R d w a b) else -1, σ) := by
  have h8 := hT.1
  have hloop : loopF FU (kM_costOf_s6 (nI w) (nI a) (nI b)) (0, nI a, σ) = some (lN (Sm σ w a (b - a)), σ) := by
    refine lp_eq (fun i => (lN (Sm σ w a i), nI (a + i), σ)) _ (b - a) (by omega) (fun i hi => ?_) ?_
    · have hp := prc_nI (n := a + i) hT hw (by omega)
      simp only [kM_costOf_s6, nge (show a + i < b by omega) (by omega), if_false, ixq, inr_ (show 60 * w + (a + i) < 300 by omega), if_true, ix_ (show 60 * w + (a + i) < 2 ^ 31 by omega), hp.1, nI_l (show prc σ w (a + i) < 2 ^ 31 by omega), lN_add, nI_1]
      rfl
    · rw [show a + (b - a) = b by omega]
      simp only [kM_costOf_s6, nle (Nat.le_refl b) (by omega), if_true]
  unfold kM_costOf
  rw [hloop]
  simp only [Option.bind_some]
  unfold kM_costOf_x36
  obtain ⟨e, l1, l2⟩ := lp_inv (f := kM_costOf_s44 (nI a) (nI b) (lN (Sm σ w a (b - a)))) (fun i s => s = (Int64.ofInt (100 + fb_si (rc σ (b - a) (a - d)) i), nI i, σ) ∧ ∀ k, k < i → fbd σ b k = false) (fun e => (e = .inl σ ∧ ∃ k, k < R ∧ fbd σ b k = true) ∨ (e = .inr (Int64.ofInt (zz σ R (b - a) (a - d)), σ) ∧ ∀ k, k < R → fbd σ b k = false)) R (by omega) (fun i s hi hs => by
    obtain ⟨rfl, hn⟩ := hs
    obtain ⟨r0, f0, f1, f2, f3, hs, ⟨r, hr, er⟩, hh, hpc⟩ := hT.2.2.2.2.1 i hi
    have hnext : ∀ v : Int64, v = Int64.ofInt (100 + fb_si (rc σ (b - a) (a - d)) i) + Int64.ofInt (rc σ (b - a) (a - d) i) → fbd σ b i = false → ∃ s', some (Sum.inl (v, nI i + 1, σ)) = some (Sum.inl (β := Mem ⊕ (Int64 × Mem)) s') ∧ s' = (Int64.ofInt (100 + fb_si (rc σ (b - a) (a - d)) (i + 1)), nI (i + 1), σ) ∧ ∀ k, k < i + 1 → fbd σ b k = false := fun v hv hf => ⟨_, rfl, by rw [hv, fb_si_succ, ← Int.add_assoc, ← Int64.ofInt_add, nI_1], fun k hk => by
      by_cases e : k = i
      · rw [e]; exact hf
      · exact hn k (by omega)⟩
    have z : Int64.ofInt 0 = 0 := rfl
    have hp64 : (mI σ 60 0 i).toInt64 = Int64.ofInt (mI σ 60 0 i).toInt := by
      apply Int64.toInt_inj.mp
      rw [Int32.toInt_toInt64, Int64.toInt_ofInt_of_le]
      · have := fb_rng (mI σ 60 0 i); omega
      · have := fb_rng (mI σ 60 0 i); omega
    have hsub : nI b - nI a = nI (b - a) := pk_sub (by omega)
    have hsub2 : nI a - nI d = nI (a - d) := pk_sub hd
    simp only [kM_costOf_s44, hT.2.2.1, nge hi (by omega), if_false, inr_ (show i < 8 by omega), if_true, ix_ (show i < 2 ^ 31 by omega)]
    by_cases c1 : mI σ 61 0 i = 0
    · rw [if_pos c1]
      refine Or.inl (hnext _ ?_ ?_)
      · unfold rc
        rw [if_neg (fun q => q.1 c1), z, Int64.add_zero]
      · unfold fbd
        simp [c1]
    · rw [if_neg c1]
      have hj116 : mI σ 58 0 i ≠ 2 → kM_costOf_j116 σ (nI a) (nI b) (lN (Sm σ w a (b - a))) (Int64.ofInt (100 + fb_si (rc σ (b - a) (a - d)) i)) (nI i) = some (.inl (Int64.ofInt (100 + fb_si (rc σ (b - a) (a - d)) i) + Int64.ofInt (rc σ (b - a) (a - d) i), nI i + 1, σ)) := by
        intro h2
        unfold kM_costOf_j116 kM_costOf_j139 kM_costOf_j166 rc
        simp only [inr_ (show i < 8 by omega), if_true, ix_ (show i < 2 ^ 31 by omega), hday, hsub, hsub2, hp64]
        rcases hs with e | e | e
        · by_cases c2 : mI σ 59 0 i ≤ nI (b - a)
          · simp [c1, e, c2]
          · simp [c1, e, c2, z]
        · by_cases c2 : nI (a - d) < mI σ 59 0 i
          · have c3 : ¬ mI σ 59 0 i ≤ nI (a - d) := Int32.not_le.mpr c2
            simp [c1, e, c2, c3, z]
          · have c3 : mI σ 59 0 i ≤ nI (a - d) := Int32.not_lt.mp c2
            simp [c1, e, c2, c3]
        · exact absurd e h2
      by_cases c2 : mI σ 58 0 i = 2
      · have hskip : kM_costOf_j116 σ (nI a) (nI b) (lN (Sm σ w a (b - a))) (Int64.ofInt (100 + fb_si (rc σ (b - a) (a - d)) i)) (nI i) = some (.inl (Int64.ofInt (100 + fb_si (rc σ (b - a) (a - d)) i), nI i + 1, σ)) := by
          unfold kM_costOf_j116 kM_costOf_j139
          simp only [inr_ (show i < 8 by omega), if_true, ix_ (show i < 2 ^ 31 by omega), c2, show ¬ ((2 : Int32) = 0) by decide, show ¬ ((2 : Int32) = 1) by decide, if_false]
        have hrc : rc σ (b - a) (a - d) i = 0 := by
          unfold rc
          rw [if_neg]
          rintro ⟨-, q | q⟩
          · rw [c2] at q; exact absurd q.1 (by decide)
          · rw [c2] at q; exact absurd q.1 (by decide)
        have hv : Int64.ofInt (100 + fb_si (rc σ (b - a) (a - d)) i) = Int64.ofInt (100 + fb_si (rc σ (b - a) (a - d)) i) + Int64.ofInt (rc σ (b - a) (a - d) i) := by rw [hrc, z, Int64.add_zero]
        have hno : r + 1 ≠ b → fbd σ b i = false := fun q => by
          unfold fbd
          rw [er, nI_1]
          simp only [Bool.and_eq_false_iff, decide_eq_false_iff_not]
          exact Or.inr (Or.inr (fun y => q ((nI_eq (by omega) (by omega)).mp y)))
        rw [if_pos c2, er, hskip]
        by_cases d1 : r < a
        · rw [if_pos (nI_lt d1 (by omega))]
          exact Or.inl (hnext _ hv (hno (by omega)))
        · rw [if_neg (nI_nlt (by omega) (by omega))]
          by_cases d2 : b ≤ r
          · rw [if_pos (nle d2)]
            exact Or.inl (hnext _ hv (hno (by omega)))
          · rw [if_neg (nge (by omega)), nI_1]
            by_cases d3 : r + 1 < b
            · rw [if_pos (nI_lt d3 (by omega))]
              exact Or.inl (hnext _ hv (hno (by omega)))
            · rw [if_neg (nI_nlt (by omega) (by omega))]
              refine Or.inr ⟨_, rfl, Or.inl ⟨rfl, i, hi, ?_⟩⟩
              unfold fbd
              rw [er, nI_1]
              simp [c1, c2]
              congr 1
              omega
      · rw [if_neg c2, hj116 c2]
        refine Or.inl (hnext _ rfl ?_)
        unfold fbd
        simp [c2]) (fun s hs => by
    obtain ⟨rfl, a⟩ := hs
    exact ⟨_, by simp only [kM_costOf_s44, hT.2.2.1, nle (Nat.le_refl R) (by omega), if_true]; rfl, Or.inr ⟨rfl, a⟩⟩) (s := (100, 0, σ)) ⟨rfl, fun k hk => by omega⟩
  rw [l1]
  unfold mE
  rcases l2 with ⟨rfl, k, hk, h⟩ | ⟨rfl, h⟩
  · have : ¬ fb_ct (fbd σ b) R = 0 := fun z => by
      have := fb_ct_zero.mp z k hk
      rw [h] at this
      cases this
    simp [this, kM_costOf_x112]
  · have := fb_ct_zero.mpr h
    simp only [Option.bind_some, Sum.elim_inr, this, decide_true, if_true, kM_costOf_x185]
    obtain ⟨z1, z2⟩ := zz_bd (len := b - a) (ah := a - d) hT
    have hbd := (cst_bd (d := d) hT hw (show a ≤ b by omega) hb).1
    have hti : (Int64.ofInt (zz σ R (b - a) (a - d))).toInt = zz σ R (b - a) (a - d) := Int64.toInt_ofInt_of_le (by omega) (by omega)
    by_cases e : zz σ R (b - a) (a - d) < 0
    · have hc : lg_cmp (Int64.ofInt (zz σ R (b - a) (a - d))) 0 = -1 := by
        unfold lg_cmp
        rw [if_neg, if_neg]
        · intro y
          have := congrArg Int64.toInt y
          rw [hti] at this
          simp at this
          omega
        · intro y
          have y' : (0 : Int64) < Int64.ofInt (zz σ R (b - a) (a - d)) := y
          rw [Int64.lt_iff_toInt_lt, hti] at y'
          simp at y'
          omega
      rw [hc, if_neg (by decide)]
      unfold cst
      rw [show (zz σ R (b - a) (a - d)).toNat = 0 by omega]
      simp
      rfl
    · have hl : Int64.ofInt (zz σ R (b - a) (a - d)) = lN (zz σ R (b - a) (a - d)).toNat := by
        unfold lN
        rw [← Int64.ofInt_eq_ofNat, Int.toNat_of_nonneg (by omega)]
      have hc : (0 : Int32) ≤ lg_cmp (lN (zz σ R (b - a) (a - d)).toNat) 0 := by
        unfold lg_cmp
        split
        · decide
        · split
          · decide
          · rename_i y1 y2
            exfalso
            apply y1
            show (0 : Int64) < _
            rw [Int64.lt_iff_toInt_lt, ← hl, hti]
            have : ¬ zz σ R (b - a) (a - d) = 0 := fun y => y2 (by rw [y]; rfl)
            simp
            omega
      rw [hl, if_pos hc, lN_mul, show (100 : Int64) = lN 100 from rfl, pk_lDiv (by omega) (by omega) (by omega)]
      rfl
