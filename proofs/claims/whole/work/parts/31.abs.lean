/-! the house in a night: what is open, its kind, how many can have it, the place that a door joins with it (99: none) -/
abbrev HV : Type := (Nat → Bool) × (Nat → Nat) × (Nat → Nat) × (Nat → Nat)
abbrev TK : Type := Nat → Nat → Bool
abbrev ND : Type := Nat → Nat
def fu (H : HV) (tk : TK) (p b : Nat) : Bool := H.1 p && (decide (b < H.2.2.1 p) && !tk p b)
def fc (H : HV) (tk : TK) (p : Nat) : Nat := fb_ct (fu H tk p) 6
def FK (H : HV) (tk : TK) (k : Nat) : Nat := fb_sm (fun p => if H.2.1 p = k then fc H tk p else 0) 16
def su (H : HV) (tk : TK) (p : Nat) : Bool := fu H tk p 0 && (fu H tk (p + 1) 0 && decide (H.2.2.2 p = p + 1))
def FS (H : HV) (tk : TK) : Nat := fb_ct (su H tk) 16
def pf (H : HV) (tk : TK) (p : Nat) : Bool := decide (H.2.2.2 p < 16) && fu H tk (H.2.2.2 p) 0
/-- a house as it can be -/
def WH (H : HV) : Prop := (∀ p, 16 ≤ p → H.1 p = false) ∧ ∀ p, p < 16 → H.1 p = true →
  H.2.1 p ≤ 3 ∧ (H.2.1 p ≠ 3 → H.2.2.1 p = 1) ∧ 1 ≤ H.2.2.1 p ∧ H.2.2.1 p ≤ 6 ∧
  (H.2.2.2 p = 99 ∨ (H.2.2.2 p = p + 1 ∧ p + 1 < 16 ∧ H.2.1 p = 1 ∧ (H.1 (p + 1) = true → H.2.1 (p + 1) = 1 ∧ H.2.2.2 (p + 1) = p)) ∨ (1 ≤ p ∧ H.2.2.2 p = p - 1 ∧ H.2.1 p = 1 ∧ (H.1 (p - 1) = true → H.2.1 (p - 1) = 1 ∧ H.2.2.2 (p - 1) = p)))
def tks (tk : TK) (p b : Nat) (v : Bool) : TK := fun p' b' => if p' = p ∧ b' = b then v else tk p' b'
def nds (nd : ND) (w v : Nat) : ND := fun w' => if w' = w then v else nd w'
def fit (H : HV) (tk : TK) (nd : ND) : Bool := decide (nd 0 ≤ FK H tk 3 ∧ nd 4 ≤ FS H tk ∧ nd 3 ≤ FK H tk 2 ∧ nd 3 + nd 2 + 2 * nd 4 ≤ FK H tk 2 + FK H tk 1 ∧ nd 3 + nd 2 + nd 1 + 2 * nd 4 ≤ FK H tk 2 + FK H tk 1 + FK H tk 0)
/-- a spot that is open and suits -/
def suS (H : HV) (w s : Nat) : Bool := H.1 (s / 32) && decide (s < 512 ∧ s % 4 ≤ 1 ∧ (s % 4 = 1 ↔ w = 4) ∧ (H.2.1 (s / 32) = 3 ↔ w = 0) ∧ s % 32 / 4 < H.2.2.1 (s / 32) ∧ (w = 2 → H.2.1 (s / 32) ≠ 0) ∧ (w = 3 → H.2.1 (s / 32) = 2) ∧ (w = 4 → H.2.1 (s / 32) = 1 ∧ H.2.2.2 (s / 32) = s / 32 + 1))
def tkS (tk : TK) (s : Nat) : TK := if s % 4 = 1 then tks (tks tk (s / 32) (s % 32 / 4) true) (s / 32 + 1) 0 true else tks tk (s / 32) (s % 32 / 4) true
def frS (H : HV) (tk : TK) (s : Nat) : Bool := fu H tk (s / 32) (s % 32 / 4) && (decide (s % 4 ≠ 1) || fu H tk (s / 32 + 1) 0)
def give (H : HV) (w s : Nat) (x : TK × ND) : Option (TK × ND) :=
  if suS H w s = true ∧ frS H x.1 s = true ∧ fit H (tkS x.1 s) (nds x.2 w (x.2 w - 1)) = true then some (tkS x.1 s, nds x.2 w (x.2 w - 1)) else none
def fstS (H : HV) (w : Nat) (x : TK × ND) : Option Nat := (List.range 512).find? (fun s => (give H w s x).isSome)
abbrev PE : Type := Nat × Nat × Nat
abbrev ST : Type := (TK × ND) × (Nat → Option Nat)
def tk0 : TK := fun _ _ => false
def ups (f : Nat → Option Nat) (q : Nat) (v : Option Nat) : Nat → Option Nat := fun q' => if q' = q then v else f q'
def keepStep (H : HV) (which : Nat) (x : ND × (Nat → Bool)) (e : PE) : ND × (Nat → Bool) :=
  if e.2.2 = which then (if fit H tk0 (nds x.1 e.2.1 (x.1 e.2.1 + 1)) = true then (nds x.1 e.2.1 (x.1 e.2.1 + 1), fun q => if q = e.1 then true else x.2 q) else (x.1, fun q => if q = e.1 then false else x.2 q)) else x
def keepAll (H : HV) (WL : List PE) : ND × (Nat → Bool) := WL.foldl (keepStep H 0) (WL.foldl (keepStep H 1) (WL.foldl (keepStep H 2) (fun _ => 0, fun _ => false)))
def againStep (H : HV) (pv : Nat → Option Nat) (kp : Nat → Bool) (x : ST) (e : PE) : ST :=
  if kp e.1 = true then (match pv e.1 with
    | none => x
    | some s => match give H e.2.1 s x.1 with
      | none => x
      | some y => (y, ups x.2 e.1 (some s))) else x
def firstStep (H : HV) (kp : Nat → Bool) (x : ST) (e : PE) : ST :=
  if kp e.1 = true ∧ x.2 e.1 = none then (match fstS H e.2.1 x.1 with
    | none => x
    | some s => match give H e.2.1 s x.1 with
      | none => x
      | some y => (y, ups x.2 e.1 (some s))) else x
def pnight (H : HV) (WL : List PE) (pv : Nat → Option Nat) : ST :=
  WL.foldl (firstStep H (keepAll H WL).2) (WL.foldl (againStep H pv (keepAll H WL).2) ((tk0, (keepAll H WL).1), fun _ => none))
/-! what is counted -/
theorem ct_sm (p : Nat → Bool) : ∀ n, fb_ct p n = fb_sm (fun k => if p k = true then 1 else 0) n
  | 0 => rfl
  | n + 1 => by rw [fb_ct_succ, fb_sm_succ, ct_sm p n]
theorem sm_shift (f : Nat → Nat) : ∀ n, fb_sm (fun k => if 1 ≤ k then f (k - 1) else 0) (n + 1) = fb_sm f n
  | 0 => rfl
  | n + 1 => by
    rw [fb_sm_succ, sm_shift f n, fb_sm_succ]
    simp
theorem fu_iff {H : HV} {tk : TK} {p b : Nat} : fu H tk p b = true ↔ H.1 p = true ∧ b < H.2.2.1 p ∧ tk p b = false := by
  unfold fu
  simp [Bool.and_eq_true]
theorem fc_le {H : HV} {tk : TK} {p : Nat} (h : H.2.2.1 p = 1) : fc H tk p = if fu H tk p 0 = true then 1 else 0 := by
  have h1 : ∀ b, 1 ≤ b → fu H tk p b = false := fun b hb => by
    cases e : fu H tk p b with
    | false => rfl
    | true => have := (fu_iff.mp e).2.1; omega
  unfold fc
  simp only [fb_ct]
  rw [h1 1 (by omega), h1 2 (by omega), h1 3 (by omega), h1 4 (by omega), h1 5 (by omega)]
  simp
theorem su_iff {H : HV} {tk : TK} {p : Nat} : su H tk p = true ↔ fu H tk p 0 = true ∧ fu H tk (p + 1) 0 = true ∧ H.2.2.2 p = p + 1 := by
  unfold su
  simp [Bool.and_eq_true]
theorem fu_lt {H : HV} {tk : TK} {p b : Nat} (hW : WH H) (h : fu H tk p b = true) : p < 16 := by
  by_cases hp : p < 16
  · exact hp
  · have := (fu_iff.mp h).1
    rw [hW.1 p (by omega)] at this
    cases this
/-- the two rooms of a suite -/
theorem su_both {H : HV} {tk : TK} {p : Nat} (hW : WH H) (h : su H tk p = true) : p + 1 < 16 ∧ H.2.1 p = 1 ∧ H.2.1 (p + 1) = 1 ∧ H.2.2.2 (p + 1) = p := by
  obtain ⟨h1, h2, h3⟩ := su_iff.mp h
  have hp := fu_lt hW h1
  have hq := fu_lt hW h2
  obtain ⟨-, -, -, -, hd⟩ := hW.2 p hp (fu_iff.mp h1).1
  rcases hd with hd | ⟨-, -, a, b⟩ | ⟨_, hd, _⟩
  · omega
  · exact ⟨hq, a, b (fu_iff.mp h2).1⟩
  · omega
theorem su_one {H : HV} {tk : TK} {p : Nat} (hW : WH H) (h : su H tk (p + 1) = true) : su H tk p = false := by
  cases e : su H tk p with
  | false => rfl
  | true =>
    have h1 := (su_both hW e).2.2.2
    have h2 := (su_iff.mp h).2.2
    omega
theorem pf_iff {H : HV} {tk : TK} {p : Nat} (hW : WH H) (h : fu H tk p 0 = true) : pf H tk p = true ↔ su H tk p = true ∨ (1 ≤ p ∧ su H tk (p - 1) = true) := by
  have hp := fu_lt hW h
  obtain ⟨-, -, -, -, hd⟩ := hW.2 p hp (fu_iff.mp h).1
  unfold pf
  constructor
  · intro h1
    simp only [Bool.and_eq_true, decide_eq_true_eq] at h1
    rcases hd with hd | ⟨hd, -, a, b⟩ | ⟨h0, hd, a, b⟩
    · omega
    · rw [hd] at h1
      exact Or.inl (su_iff.mpr ⟨h, h1.2, hd⟩)
    · rw [hd] at h1
      have := (b (fu_iff.mp h1.2).1).2
      exact Or.inr ⟨h0, su_iff.mpr ⟨h1.2, by rw [show p - 1 + 1 = p by omega]; exact h, by omega⟩⟩
  · intro h1
    simp only [Bool.and_eq_true, decide_eq_true_eq]
    rcases h1 with h1 | ⟨h0, h1⟩
    · have h2 := su_iff.mp h1
      rw [h2.2.2]
      exact ⟨fu_lt hW h2.2.1, h2.2.1⟩
    · have h2 := su_iff.mp h1
      have h3 := (su_both hW h1).2.2.2
      rw [show p - 1 + 1 = p by omega] at h3
      rw [h3]
      exact ⟨by omega, h2.1⟩
theorem FS_lo {H : HV} {tk : TK} (hW : WH H) : fb_sm (fun p => (if su H tk p = true then 1 else 0) + (if 1 ≤ p then (if su H tk (p - 1) = true then 1 else 0) else 0)) 16 = 2 * FS H tk := by
  rw [fb_sm_add, sm_shift (fun p => if su H tk p = true then 1 else 0) 15, ← ct_sm, ← ct_sm]
  have h15 : su H tk 15 = false := by
    cases e : su H tk 15 with
    | false => rfl
    | true => have := (su_both hW e).1; omega
  have : FS H tk = fb_ct (su H tk) 15 := by
    unfold FS
    rw [fb_ct_succ, h15]
    rfl
  rw [← this]
  unfold FS
  omega
theorem F1_ge {H : HV} {tk : TK} (hW : WH H) : 2 * FS H tk ≤ FK H tk 1 := by
  rw [← FS_lo hW]
  unfold FK
  refine fb_sm_le fun p hp => ?_
  by_cases h1 : su H tk p = true
  · have h2 := su_both hW h1
    have h3 := su_iff.mp h1
    rw [if_pos h1, if_pos h2.2.1, fc_le ((hW.2 p hp (fu_iff.mp h3.1).1).2.1 (by omega)), if_pos h3.1]
    have : (if 1 ≤ p then (if su H tk (p - 1) = true then 1 else 0) else 0) = 0 := by
      by_cases h0 : 1 ≤ p
      · rw [if_pos h0]
        obtain ⟨r, rfl⟩ : ∃ r, p = r + 1 := ⟨p - 1, by omega⟩
        rw [show r + 1 - 1 = r by omega, su_one hW h1]
        rfl
      · rw [if_neg h0]
    omega
  · rw [if_neg h1]
    by_cases h0 : 1 ≤ p ∧ su H tk (p - 1) = true
    · have h2 := su_both hW h0.2
      have h3 := su_iff.mp h0.2
      rw [show p - 1 + 1 = p by omega] at h2 h3
      rw [if_pos h0.1, if_pos h0.2, if_pos h2.2.2.1, fc_le ((hW.2 p hp (fu_iff.mp h3.2.1).1).2.1 (by omega)), if_pos h3.2.1]
      omega
    · have : (if 1 ≤ p then (if su H tk (p - 1) = true then 1 else 0) else 0) = 0 := by
        by_cases h5 : 1 ≤ p
        · rw [if_pos h5, if_neg (fun z => h0 ⟨h5, z⟩)]
        · rw [if_neg h5]
      rw [this]
      omega
theorem F1_le {H : HV} {tk : TK} (hW : WH H) (h : ∀ p, p < 16 → H.2.1 p = 1 → fu H tk p 0 = true → pf H tk p = true) : FK H tk 1 ≤ 2 * FS H tk := by
  rw [← FS_lo hW]
  unfold FK
  refine fb_sm_le fun p hp => ?_
  by_cases hk : H.2.1 p = 1
  · rw [if_pos hk]
    by_cases ho : H.1 p = true
    · rw [fc_le ((hW.2 p hp ho).2.1 (by omega))]
      by_cases hf : fu H tk p 0 = true
      · rw [if_pos hf]
        rcases (pf_iff hW hf).mp (h p hp hk hf) with h1 | ⟨h0, h1⟩
        · rw [if_pos h1]; omega
        · rw [if_pos h0, if_pos h1]; omega
      · rw [if_neg hf]; omega
    · have : fc H tk p = 0 := by
        unfold fc
        refine fb_ct_zero.mpr fun b _ => ?_
        cases e : fu H tk p b with
        | false => rfl
        | true => exact absurd (fu_iff.mp e).1 ho
      omega
  · rw [if_neg hk]; omega
theorem fu_tks {H : HV} {tk : TK} {p b : Nat} {v : Bool} (p' b' : Nat) : fu H (tks tk p b v) p' b' = if p' = p ∧ b' = b then (H.1 p && (decide (b < H.2.2.1 p) && !v)) else fu H tk p' b' := by
  unfold fu tks
  by_cases h : p' = p ∧ b' = b
  · rw [if_pos h, if_pos h, h.1, h.2]
  · rw [if_neg h, if_neg h]
theorem fc_tks {H : HV} {tk : TK} {p b : Nat} (hb : b < 6) (hf : fu H tk p b = true) (p' : Nat) : fc H (tks tk p b true) p' + (if p' = p then 1 else 0) = fc H tk p' := by
  unfold fc
  by_cases h : p' = p
  · subst h
    rw [if_pos rfl]
    have h1 : fb_ct (fu H (tks tk p' b true) p') 6 = fb_ct (fun k => if k = b then false else fu H tk p' k) 6 := fb_ct_cong (fun k _ => by
      rw [fu_tks]
      by_cases e : k = b
      · subst e; simp
      · simp [e])
    have h2 := fb_ct_upd (fu H tk p') false hb
    rw [h1]
    rw [hf] at h2
    simpa using h2
  · rw [if_neg h, Nat.add_zero]
    exact fb_ct_cong (fun k _ => by rw [fu_tks, if_neg (fun z => h z.1)])
/-- a unit is taken: one of its kind less -/
theorem FK_tks {H : HV} {tk : TK} {p b : Nat} (hp : p < 16) (hb : b < 6) (hf : fu H tk p b = true) (k : Nat) : FK H (tks tk p b true) k + (if H.2.1 p = k then 1 else 0) = FK H tk k := by
  unfold FK
  have h1 : fb_sm (fun p' => if H.2.1 p' = k then fc H (tks tk p b true) p' else 0) 16 = fb_sm (fun j => if j = p then (if H.2.1 p = k then fc H (tks tk p b true) p else 0) else (fun p' => if H.2.1 p' = k then fc H tk p' else 0) j) 16 := fb_sm_cong (fun j _ => by
    by_cases e : j = p
    · subst e; rw [if_pos rfl]
    · rw [if_neg e]
      have h3 := fc_tks hb hf j
      rw [if_neg e] at h3
      rw [Nat.add_zero] at h3
      rw [h3])
  have h2 := fb_sm_upd (fun p' => if H.2.1 p' = k then fc H tk p' else 0) (if H.2.1 p = k then fc H (tks tk p b true) p else 0) hp
  have h3 := fc_tks hb hf p
  rw [if_pos rfl] at h3
  rw [h1]
  by_cases e : H.2.1 p = k
  · simp only [if_pos e] at h2 ⊢
    omega
  · simp only [if_neg e] at h2 ⊢
    omega
theorem su_tks {H : HV} {tk : TK} {p b : Nat} (i : Nat) : su H (tks tk p b true) i = if b = 0 ∧ (i = p ∨ i + 1 = p) then false else su H tk i := by
  unfold su
  rw [fu_tks, fu_tks]
  by_cases hb : b = 0
  · subst hb
    by_cases h1 : i = p
    · subst h1; simp
    · by_cases h2 : i + 1 = p
      · subst h2; simp
      · simp [h1, h2]
  · have : ¬ (0 = b) := fun e => hb e.symm
    simp [this, hb]
/-- a unit is taken: one suite less, if it is a half of one -/
theorem FS_tks {H : HV} {tk : TK} {p b : Nat} (hW : WH H) (hf : fu H tk p b = true) : FS H (tks tk p b true) + (if b = 0 ∧ pf H tk p = true then 1 else 0) = FS H tk := by
  have hp := fu_lt hW hf
  unfold FS
  by_cases hb : b = 0
  · subst hb
    by_cases h : pf H tk p = true
    · rw [if_pos ⟨rfl, h⟩]
      rcases (pf_iff hW hf).mp h with h1 | ⟨h0, h1⟩
      · have e1 : fb_ct (su H (tks tk p 0 true)) 16 = fb_ct (fun k => if k = p then false else su H tk k) 16 := fb_ct_cong (fun k _ => by
          rw [su_tks]
          by_cases e : k = p
          · subst e; simp
          · by_cases e2 : k + 1 = p
            · subst e2
              simp [su_one hW h1]
            · simp [e, e2])
        have e2 := fb_ct_upd (su H tk) false hp
        rw [h1] at e2
        rw [e1]
        simpa using e2
      · have e1 : fb_ct (su H (tks tk p 0 true)) 16 = fb_ct (fun k => if k = p - 1 then false else su H tk k) 16 := fb_ct_cong (fun k _ => by
          rw [su_tks]
          by_cases e : k + 1 = p
          · have h9 : k = p - 1 := by omega
            rw [if_pos ⟨rfl, Or.inr e⟩, if_pos h9]
          · have e3 : ¬ k = p - 1 := by omega
            by_cases e2 : k = p
            · subst e2
              have : su H tk k = false := by
                cases e4 : su H tk k with
                | false => rfl
                | true =>
                  have := su_one (p := k - 1) hW (by rw [show k - 1 + 1 = k by omega]; exact e4)
                  rw [h1] at this
                  cases this
              simp [this]
            · simp [e, e2, e3])
        have e2 := fb_ct_upd (su H tk) false (show p - 1 < 16 by omega)
        rw [h1] at e2
        rw [e1]
        simpa using e2
    · rw [if_neg (fun z => h z.2), Nat.add_zero]
      have h1 : ¬ su H tk p = true := fun z => h ((pf_iff hW hf).mpr (Or.inl z))
      refine fb_ct_cong fun k _ => ?_
      rw [su_tks]
      by_cases e : k = p
      · subst e; simp [h1]
      · by_cases e2 : k + 1 = p
        · have h2 : ¬ su H tk k = true := fun z => h ((pf_iff hW hf).mpr (Or.inr ⟨by omega, by rw [show p - 1 = k by omega]; exact z⟩))
          simp [e2, h2]
        · simp [e, e2]
  · rw [if_neg (fun z => hb z.1), Nat.add_zero]
    exact fb_ct_cong fun k _ => by rw [su_tks, if_neg (fun z => hb z.1)]
