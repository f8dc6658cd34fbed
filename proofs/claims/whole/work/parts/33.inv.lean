/-! what the memory says of the house (by the reference's rows) -/
def isRm (σ : Mem) (p : Nat) : Bool := decide (p < 16) && (decide (0 ≤ mI σ 31 0 p) && decide (mI σ 31 0 p < 4))
def opn (σ : Mem) (p n : Nat) : Bool := isRm σ p && (decide (mI σ 37 0 p = 0) && (decide (nI n < mI σ 35 0 p) && decide (((mL σ 36 0 p >>> ((nI n).toInt64 &&& 63)) &&& 1) = 0)))
def hvW (σ : Mem) (o : Nat → Bool) : HV := (o, fun p => if o p = true then ix (mI σ 31 0 p) else 0, fun p => if o p = true then (if mI σ 31 0 p = 3 then ix (mI σ 33 0 p) else 1) else 0, fun p => if o p = true then (if mI σ 34 0 p = -1 then 99 else ix (mI σ 34 0 p)) else 0)
def hvS (σ : Mem) : HV := hvW σ (isRm σ)
def hvN (σ : Mem) (n : Nat) : HV := hvW σ (fun p => opn σ p n)
def HIp (σ : Mem) (p : Nat) : Prop :=
  (mI σ 31 0 p = -1 ∨ mI σ 31 0 p = 0 ∨ mI σ 31 0 p = 1 ∨ mI σ 31 0 p = 2 ∨ mI σ 31 0 p = 3 ∨ mI σ 31 0 p = 4) ∧
  mR σ 3 0 p = (if isRm σ p = true then some p else none) ∧
  mI σ 4 0 p = (if mI σ 31 0 p = 4 then 1 else 0) ∧
  mV σ 20 p = isRm σ p ∧
  (mI σ 37 0 p = 0 ∨ mI σ 37 0 p = 1) ∧
  (isRm σ p = false → mI σ 34 0 p = -1 ∧ mL σ 36 0 p = 0 ∧ mI σ 37 0 p = 0) ∧
  (isRm σ p = true → mI σ 20 p 0 = mI σ 31 0 p ∧ mI σ 20 p 1 = mI σ 32 0 p ∧ mI σ 20 p 2 = mI σ 33 0 p ∧ mI σ 20 p 3 = mI σ 34 0 p ∧ mI σ 20 p 4 = mI σ 37 0 p ∧
    (mI σ 37 0 p = 0 → mI σ 20 p 5 = mI σ 35 0 p ∧ mL σ 20 p 6 = mL σ 36 0 p) ∧ (mI σ 37 0 p = 1 → mI σ 20 p 5 = 0 ∧ mL σ 20 p 6 = 0) ∧
    (∃ f, f < 10 ∧ mI σ 32 0 p = nI f) ∧ (∃ o, o ≤ 60 ∧ mI σ 35 0 p = nI o) ∧ (∃ b, 1 ≤ b ∧ b ≤ 6 ∧ mI σ 33 0 p = nI b)) ∧
  (mI σ 34 0 p = -1 ∨ (p + 1 < 16 ∧ mI σ 34 0 p = nI (p + 1) ∧ mI σ 31 0 p = 1 ∧ mI σ 34 0 (p + 1) = nI p ∧ mI σ 31 0 (p + 1) = 1) ∨ (1 ≤ p ∧ mI σ 34 0 p = nI (p - 1) ∧ mI σ 31 0 p = 1 ∧ mI σ 34 0 (p - 1) = nI p ∧ mI σ 31 0 (p - 1) = 1))
def HI (σ : Mem) : Prop := ∀ p, p < 16 → HIp σ p
theorem rm_iff {σ : Mem} {p : Nat} (hp : p < 16) : isRm σ p = true ↔ 0 ≤ mI σ 31 0 p ∧ mI σ 31 0 p < 4 := by
  unfold isRm
  simp [hp]
theorem rm_lt {σ : Mem} {p : Nat} (h : isRm σ p = true) : p < 16 := by
  unfold isRm at h
  simp only [Bool.and_eq_true, decide_eq_true_eq] at h
  exact h.1
theorem kd_of {σ : Mem} {p : Nat} (hI : HI σ) (h : isRm σ p = true) : mI σ 31 0 p = 0 ∨ mI σ 31 0 p = 1 ∨ mI σ 31 0 p = 2 ∨ mI σ 31 0 p = 3 := by
  have hp := rm_lt h
  obtain ⟨h0, h4⟩ := (rm_iff hp).mp h
  rcases (hI p hp).1 with e | e | e | e | e | e
  · rw [e] at h0; exact absurd h0 (by decide)
  · exact Or.inl e
  · exact Or.inr (Or.inl e)
  · exact Or.inr (Or.inr (Or.inl e))
  · exact Or.inr (Or.inr (Or.inr e))
  · rw [e] at h4; exact absurd h4 (by decide)
theorem rm_kd {σ : Mem} {p : Nat} (hp : p < 16) (h : mI σ 31 0 p = 0 ∨ mI σ 31 0 p = 1 ∨ mI σ 31 0 p = 2 ∨ mI σ 31 0 p = 3) : isRm σ p = true := by
  refine (rm_iff hp).mpr ?_
  rcases h with e | e | e | e <;> rw [e] <;> decide
theorem no_rm {σ : Mem} {p : Nat} (hI : HI σ) (hp : p < 16) (h : isRm σ p = false) : mI σ 31 0 p = -1 ∨ mI σ 31 0 p = 4 := by
  rcases (hI p hp).1 with e | e | e | e | e | e
  · exact Or.inl e
  · rw [rm_kd hp (by simp [e])] at h; cases h
  · rw [rm_kd hp (by simp [e])] at h; cases h
  · rw [rm_kd hp (by simp [e])] at h; cases h
  · rw [rm_kd hp (by simp [e])] at h; cases h
  · exact Or.inr e
theorem opn_rm {σ : Mem} {p n : Nat} (h : opn σ p n = true) : isRm σ p = true := by
  unfold opn at h
  simp only [Bool.and_eq_true] at h
  exact h.1
theorem cmp0 {x y : Int64} : lg_cmp x y = 0 ↔ x = y := by
  unfold lg_cmp
  by_cases h : x > y
  · rw [if_pos h]
    constructor
    · intro e; exact absurd e (by decide)
    · intro e; subst e; exact absurd h (Int64.lt_irrefl)
  · rw [if_neg h]
    by_cases e : x = y
    · simp [e]
    · rw [if_neg e]
      constructor
      · intro e2; exact absurd e2 (by decide)
      · intro e2; exact absurd e2 e
/-! the rows of both for the house -/
theorem roomAt_in {σ : Mem} {p : Nat} (hI : HI σ) (hp : p < 16) : kH_roomAt σ (nI p) = some (if isRm σ p = true then some p else none, σ) := by
  unfold kH_roomAt
  rw [if_neg nn0, if_neg (show ¬ (16 : Int32) ≤ nI p from nge hp), if_pos (inr_ hp), ix_, (hI p hp).2.1]
  by_cases h : isRm σ p = true
  · rw [if_pos h]; rfl
  · rw [if_neg h]; rfl
theorem roomAt_out {σ : Mem} {x : Int32} (h : x < 0 ∨ nI 16 ≤ x) : kH_roomAt σ x = some (none, σ) := by
  unfold kH_roomAt
  by_cases h0 : x < 0
  · rw [if_pos h0]
  · rw [if_neg h0, if_pos (show (16 : Int32) ≤ x from h.resolve_left h0)]
theorem isPlace_in {σ : Mem} {p : Nat} (hp : p < 16) : kG_isPlace σ (nI p) = some (1, σ) := by
  unfold kG_isPlace
  rw [if_neg nn0, if_neg (show ¬ (16 : Int32) ≤ nI p from nge hp)]
theorem isPlace_out {σ : Mem} {x : Int32} (h : x < 0 ∨ nI 16 ≤ x) : kG_isPlace σ x = some (0, σ) := by
  unfold kG_isPlace
  by_cases h0 : x < 0
  · rw [if_pos h0]
  · rw [if_neg h0, if_pos (show (16 : Int32) ≤ x from h.resolve_left h0)]
theorem mPlace_in {σ : Mem} {p : Nat} (hp : p < 16) : kM_isPlace σ (nI p) = some (1, σ) := by
  unfold kM_isPlace
  rw [if_neg nn0, if_neg (show ¬ (16 : Int32) ≤ nI p from nge hp)]
theorem mPlace_out {σ : Mem} {x : Int32} (h : x < 0 ∨ nI 16 ≤ x) : kM_isPlace σ x = some (0, σ) := by
  unfold kM_isPlace
  by_cases h0 : x < 0
  · rw [if_pos h0]
  · rw [if_neg h0, if_pos (show (16 : Int32) ≤ x from h.resolve_left h0)]
theorem isNight_in {σ : Mem} {n : Nat} (hn : n < 60) : kG_isNight σ (nI n) = some (1, σ) := by
  unfold kG_isNight
  rw [if_neg nn0, if_neg (show ¬ (60 : Int32) ≤ nI n from nge hn)]
theorem isNight_out {σ : Mem} {x : Int32} (h : x < 0 ∨ nI 60 ≤ x) : kG_isNight σ x = some (0, σ) := by
  unfold kG_isNight
  by_cases h0 : x < 0
  · rw [if_pos h0]
  · rw [if_neg h0, if_pos (show (60 : Int32) ≤ x from h.resolve_left h0)]
theorem mNight_in {σ : Mem} {n : Nat} (hn : n < 60) : kM_isNight σ (nI n) = some (1, σ) := by
  unfold kM_isNight
  rw [if_neg nn0, if_neg (show ¬ (60 : Int32) ≤ nI n from nge hn)]
theorem mNight_out {σ : Mem} {x : Int32} (h : x < 0 ∨ nI 60 ≤ x) : kM_isNight σ x = some (0, σ) := by
  unfold kM_isNight
  by_cases h0 : x < 0
  · rw [if_pos h0]
  · rw [if_neg h0, if_pos (show (60 : Int32) ≤ x from h.resolve_left h0)]
theorem isWant_in {σ : Mem} {w : Nat} (hw : w < 5) : kG_isWant σ (nI w) = some (1, σ) := by
  unfold kG_isWant
  rw [if_neg nn0, if_neg (show ¬ (5 : Int32) ≤ nI w from nge hw)]
theorem isWant_out {σ : Mem} {x : Int32} (h : x < 0 ∨ nI 5 ≤ x) : kG_isWant σ x = some (0, σ) := by
  unfold kG_isWant
  by_cases h0 : x < 0
  · rw [if_pos h0]
  · rw [if_neg h0, if_pos (show (5 : Int32) ≤ x from h.resolve_left h0)]
theorem mRoom_in {σ : Mem} {p : Nat} (hp : p < 16) : kM_isRoom σ (nI p) = some (if isRm σ p = true then 1 else 0, σ) := by
  unfold kM_isRoom
  rw [mPlace_in hp]
  simp only [Option.bind_some, inr_ hp, if_true, ix_ (show p < 2 ^ 31 by omega), show ¬ ((1 : Int32) = 0) by decide, if_false]
  by_cases h : isRm σ p = true
  · obtain ⟨h0, h4⟩ := (rm_iff hp).mp h
    rw [if_pos h, if_neg (Int32.not_lt.mpr h0), if_neg (Int32.not_le.mpr h4)]
  · rw [if_neg h]
    by_cases h0 : mI σ 31 0 p < 0
    · rw [if_pos h0]
    · rw [if_neg h0, if_pos]
      refine Int32.not_lt.mp fun h4 => h ((rm_iff hp).mpr ⟨Int32.not_lt.mp h0, h4⟩)
theorem mRoom_out {σ : Mem} {x : Int32} (h : x < 0 ∨ nI 16 ≤ x) : kM_isRoom σ x = some (0, σ) := by
  unfold kM_isRoom
  rw [mPlace_out h]
  rfl
theorem mOpen_in {σ : Mem} {p n : Nat} (hp : p < 16) (hr : isRm σ p = true) : kM_isOpen σ (nI p) (nI n) = some (if opn σ p n = true then 1 else 0, σ) := by
  unfold kM_isOpen
  simp only [inr_ hp, if_true, ix_ (show p < 2 ^ 31 by omega), cmp0]
  unfold opn
  rw [hr]
  by_cases h1 : mI σ 37 0 p = 0
  · by_cases h2 : mI σ 35 0 p ≤ nI n
    · have h2' : ¬ nI n < mI σ 35 0 p := Int32.not_lt.mpr h2
      simp [h1, h2, h2']
    · have h2' : nI n < mI σ 35 0 p := Int32.not_le.mp h2
      by_cases h3 : ((mL σ 36 0 p >>> ((nI n).toInt64 &&& 63)) &&& 1) = 0
      · simp [h1, h2, h2', h3]
      · simp [h1, h2, h2', h3]
  · simp [h1]
theorem state_in {σ : Mem} {p n : Nat} (hI : HI σ) (hr : isRm σ p = true) (hn : n < 60) : kR_stateIn σ p (nI n) = some (if mI σ 37 0 p = 0 then (if mI σ 35 0 p ≤ nI n then -1 else if ((mL σ 36 0 p >>> ((nI n).toInt64 &&& 63)) &&& 1) = 0 then 1 else 0) else -2, σ) := by
  obtain ⟨-, -, -, -, hc, -, hf, -⟩ := hI p (rm_lt hr)
  obtain ⟨-, -, -, -, f4, f5, f6, -⟩ := hf hr
  unfold kR_stateIn
  rw [f4]
  simp only [cmp0]
  by_cases h1 : mI σ 37 0 p = 0
  · rw [if_pos h1, if_pos h1, (f5 h1).1, (f5 h1).2, if_neg nn0]
    by_cases h2 : mI σ 35 0 p ≤ nI n
    · rw [if_neg (Int32.not_lt.mpr h2), if_pos h2]
    · rw [if_pos (Int32.not_le.mp h2), if_neg h2]
      split <;> rfl
  · rw [if_neg h1, if_neg h1]
theorem isOpen_in {σ : Mem} {p n : Nat} (hI : HI σ) (hr : isRm σ p = true) (hn : n < 60) : kR_isOpen σ p (nI n) = some (if opn σ p n = true then 1 else 0, σ) := by
  unfold kR_isOpen
  rw [state_in hI hr hn]
  simp only [Option.bind_some]
  unfold opn
  rw [hr]
  by_cases h1 : mI σ 37 0 p = 0
  · by_cases h2 : mI σ 35 0 p ≤ nI n
    · have h2' : ¬ nI n < mI σ 35 0 p := Int32.not_lt.mpr h2
      simp [h1, h2, h2']
    · have h2' : nI n < mI σ 35 0 p := Int32.not_le.mp h2
      by_cases h3 : ((mL σ 36 0 p >>> ((nI n).toInt64 &&& 63)) &&& 1) = 0
      · simp [h1, h2, h2', h3]
      · simp [h1, h2, h2', h3]
  · simp [h1]
theorem units_in {σ : Mem} {p : Nat} (hI : HI σ) (hr : isRm σ p = true) : ∃ u, 1 ≤ u ∧ u ≤ 6 ∧ kR_units σ p = some (nI u, σ) ∧ u = (hvS σ).2.2.1 p ∧ (mI σ 31 0 p ≠ 3 → u = 1) ∧ (mI σ 31 0 p = 3 → mI σ 33 0 p = nI u) := by
  obtain ⟨-, -, -, -, hc, -, hf, -⟩ := hI p (rm_lt hr)
  obtain ⟨f0, -, f2, -, -, -, -, -, -, b, b1, b2, b3⟩ := hf hr
  unfold kR_units
  rw [f0]
  show ∃ u, _ ∧ _ ∧ _ ∧ u = (if isRm σ p = true then (if mI σ 31 0 p = 3 then ix (mI σ 33 0 p) else 1) else 0) ∧ _
  rw [if_pos hr]
  by_cases h3 : mI σ 31 0 p = 3
  · rw [if_pos h3]
    refine ⟨b, b1, b2, by rw [f2, b3], by rw [if_pos h3, b3, ix_], fun h => absurd h3 h, fun _ => b3⟩
  · rw [if_neg h3]
    exact ⟨1, by omega, by omega, rfl, by rw [if_neg h3], fun _ => rfl, fun h => absurd h h3⟩
theorem hvN_S {σ : Mem} {n p : Nat} (h : opn σ p n = true) : (hvN σ n).2.1 p = (hvS σ).2.1 p ∧ (hvN σ n).2.2.1 p = (hvS σ).2.2.1 p ∧ (hvN σ n).2.2.2 p = (hvS σ).2.2.2 p := by
  have hr := opn_rm h
  unfold hvN hvS hvW
  simp [h, hr]
theorem WH_of {σ : Mem} {o : Nat → Bool} (hI : HI σ) (ho : ∀ p, o p = true → isRm σ p = true) : WH (hvW σ o) := by
  refine ⟨fun p hp => ?_, fun p hp h => ?_⟩
  · show o p = false
    cases e : o p with
    | false => rfl
    | true => have := rm_lt (ho p e); omega
  · have h' : o p = true := h
    have hr := ho p h'
    obtain ⟨-, -, -, -, hc, -, hf, hd⟩ := hI p hp
    obtain ⟨f0, -, f2, -, -, -, -, -, -, b, b1, b2, b3⟩ := hf hr
    have hk := kd_of hI hr
    have c0 : ix (0 : Int32) = 0 := by decide
    have c1 : ix (1 : Int32) = 1 := by decide
    have c2 : ix (2 : Int32) = 2 := by decide
    have c3 : ix (3 : Int32) = 3 := by decide
    show (if o p = true then ix (mI σ 31 0 p) else 0) ≤ 3 ∧ ((if o p = true then ix (mI σ 31 0 p) else 0) ≠ 3 → (if o p = true then (if mI σ 31 0 p = 3 then ix (mI σ 33 0 p) else 1) else 0) = 1) ∧ 1 ≤ (if o p = true then (if mI σ 31 0 p = 3 then ix (mI σ 33 0 p) else 1) else 0) ∧ (if o p = true then (if mI σ 31 0 p = 3 then ix (mI σ 33 0 p) else 1) else 0) ≤ 6 ∧
      ((if o p = true then (if mI σ 34 0 p = -1 then 99 else ix (mI σ 34 0 p)) else 0) = 99 ∨ ((if o p = true then (if mI σ 34 0 p = -1 then 99 else ix (mI σ 34 0 p)) else 0) = p + 1 ∧ p + 1 < 16 ∧ (if o p = true then ix (mI σ 31 0 p) else 0) = 1 ∧ (o (p + 1) = true → (if o (p + 1) = true then ix (mI σ 31 0 (p + 1)) else 0) = 1 ∧ (if o (p + 1) = true then (if mI σ 34 0 (p + 1) = -1 then 99 else ix (mI σ 34 0 (p + 1))) else 0) = p)) ∨
      (1 ≤ p ∧ (if o p = true then (if mI σ 34 0 p = -1 then 99 else ix (mI σ 34 0 p)) else 0) = p - 1 ∧ (if o p = true then ix (mI σ 31 0 p) else 0) = 1 ∧ (o (p - 1) = true → (if o (p - 1) = true then ix (mI σ 31 0 (p - 1)) else 0) = 1 ∧ (if o (p - 1) = true then (if mI σ 34 0 (p - 1) = -1 then 99 else ix (mI σ 34 0 (p - 1))) else 0) = p)))
    simp only [if_pos h']
    have hnm : ∀ k, k < 16 → nI k ≠ -1 := by decide
    refine ⟨?_, ?_, ?_, ?_, ?_⟩
    · rcases hk with e | e | e | e <;> rw [e] <;> decide
    · rcases hk with e | e | e | e <;> rw [e] <;> simp [c0, c1, c2, c3]
    · split
      · rw [b3, ix_]; exact b1
      · omega
    · split
      · rw [b3, ix_]; exact b2
      · omega
    · rcases hd with e | ⟨e1, e2, e3, e4, e5⟩ | ⟨e1, e2, e3, e4, e5⟩
      · left; rw [if_pos e]
      · right; left
        rw [e2, e3, if_neg (hnm _ e1), ix_]
        refine ⟨rfl, e1, c1, fun hq => ?_⟩
        rw [if_pos hq, if_pos hq, e4, e5, if_neg (hnm _ hp), ix_]
        exact ⟨c1, rfl⟩
      · right; right
        rw [e2, e3, if_neg (hnm _ (by omega)), ix_]
        refine ⟨e1, rfl, c1, fun hq => ?_⟩
        rw [if_pos hq, if_pos hq, e4, e5, if_neg (hnm _ hp), ix_]
        exact ⟨c1, rfl⟩
theorem WHN {σ : Mem} {n : Nat} (hI : HI σ) : WH (hvN σ n) := WH_of hI (fun _ h => opn_rm h)
theorem WHS {σ : Mem} (hI : HI σ) : WH (hvS σ) := WH_of hI (fun _ h => h)
