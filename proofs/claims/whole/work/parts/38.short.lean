/-! the promises -/
def wnt (σ : Mem) (q n : Nat) : Bool := decide (mI σ 40 0 q ≤ 2) && (decide (mI σ 43 0 q ≤ nI n) && decide (nI n < mI σ 44 0 q))
def wq (σ : Mem) (q : Nat) : Nat := ix (mI σ 41 0 q)
def BIq (σ : Mem) (q : Nat) : Prop :=
  mR σ 6 0 q = some q ∧ (∃ w, w < 5 ∧ mI σ 41 0 q = nI w) ∧ (∃ s, s < 8 ∧ mI σ 40 0 q = nI s) ∧ (∃ a b, a < b ∧ b ≤ 60 ∧ mI σ 43 0 q = nI a ∧ mI σ 44 0 q = nI b) ∧
  mI σ 21 q 0 = mI σ 41 0 q ∧ mI σ 21 q 1 = mI σ 42 0 q ∧ mI σ 21 q 2 = mI σ 45 0 q ∧ mI σ 21 q 3 = mI σ 40 0 q ∧ mI σ 21 q 4 = mI σ 43 0 q ∧ mI σ 21 q 5 = mI σ 44 0 q ∧ mL σ 21 q 6 = mL σ 48 0 q
def BI (σ : Mem) (N : Nat) : Prop := N ≤ 40 ∧ mI σ 5 0 1 = nI N ∧ mI σ 30 0 20 = nI N ∧ (∀ q, q < N → BIq σ q) ∧ ∀ q, N ≤ q → mV σ 21 q = false ∧ mV σ 22 q = false
def BT : List Nat := [5, 6, 21, 40, 41, 42, 43, 44, 45, 48]
def noslot (t k : Nat) (l : List Nat) (m : List (Nat × Nat)) : Bool := !l.contains t && !m.contains (t, k)
section FB
variable {l : List Nat} {m : List (Nat × Nat)} {σ σ' : Mem}
theorem Fx.sI_ (h : Fx l m σ σ') {t k : Nat} (i : Nat) (hn : noslot t k l m = true) : mI σ' t i k = mI σ t i k := by
  unfold noslot at hn
  simp only [Bool.and_eq_true, Bool.not_eq_true'] at hn
  exact h.I t i k (by simpa using hn.1) (by simpa using hn.2)
theorem wnt_fx (h : Fx l m σ σ') (hn : nohit BT l m = true) (q n : Nat) : wnt σ' q n = wnt σ q n := by
  unfold wnt
  rw [h.hI hn 40 0 q, h.hI hn 43 0 q, h.hI hn 44 0 q]
theorem wq_fx (h : Fx l m σ σ') (hn : nohit BT l m = true) (q : Nat) : wq σ' q = wq σ q := by
  unfold wq
  rw [h.hI hn 41 0 q]
theorem BI.fx {N : Nat} (h : Fx l m σ σ') (hn : nohit BT l m = true) (hs : noslot 30 20 l m = true) (hB : BI σ N) : BI σ' N := by
  obtain ⟨b1, b2, b3, b4, b5⟩ := hB
  refine ⟨b1, by rw [h.hI hn 5 0 1]; exact b2, by rw [h.sI_ 0 hs]; exact b3, fun q hq => ?_, fun q hq => by rw [h.V, h.V]; exact b5 q hq⟩
  have h0 := b4 q hq
  unfold BIq at h0 ⊢
  simp only [h.hI hn 40 0, h.hI hn 41 0, h.hI hn 42 0, h.hI hn 43 0, h.hI hn 44 0, h.hI hn 45 0, h.hL hn 48 0, h.hI hn 21 q, h.hL hn 21 q, h.hR hn 6 0]
  exact h0
end FB
theorem at_in {σ : Mem} {N q : Nat} (hB : BI σ N) (hq : q < N) : kB_at σ (nI q) = some (some q, σ) := by
  have := hB.1
  unfold kB_at
  rw [if_neg nn0, hB.2.1, if_neg (nge hq), if_neg (show ¬ (40 : Int32) ≤ nI q from nge (show q < 40 by omega)), if_pos (inr_ (by omega)), ix_, (hB.2.2.2.1 q hq).1]
  rfl
theorem at_out {σ : Mem} {N : Nat} {x : Int32} (hB : BI σ N) (h : x < 0 ∨ nI N ≤ x) : kB_at σ x = some (none, σ) := by
  unfold kB_at
  by_cases h0 : x < 0
  · rw [if_pos h0]
  · rw [if_neg h0, hB.2.1, if_pos (h.resolve_left h0)]
theorem st8 : ∀ s, s < 8 → (nI s ≤ 2 ↔ s ≤ 2) ∧ (nI s = 0 ↔ s = 0) ∧ (nI s = 1 ↔ s = 1) ∧ (nI s = 2 ↔ s = 2) ∧ ((2 : Int32) < nI s ↔ 2 < s) ∧ (nI s ≤ 1 ↔ s ≤ 1) ∧ ((1 : Int32) < nI s ↔ 1 < s) := by decide
theorem stands_in {σ : Mem} {N q : Nat} (hB : BI σ N) (hq : q < N) : kQ_stands σ q = some (if mI σ 40 0 q ≤ 2 then 1 else 0, σ) := by
  obtain ⟨-, -, ⟨s, hs, es⟩, -, -, -, -, e3, -⟩ := hB.2.2.2.1 q hq
  obtain ⟨c1, c2, c3, c4, -⟩ := st8 s hs
  unfold kQ_stands
  rw [e3, es]
  simp only [c1, c2, c3, c4]
  by_cases h : s ≤ 2
  · rw [if_pos h]
    rcases (show s = 0 ∨ s = 1 ∨ s = 2 by omega) with rfl | rfl | rfl <;> rfl
  · rw [if_neg h, if_neg (by omega), if_neg (by omega), if_neg (by omega)]
theorem covers_in {σ : Mem} {N q : Nat} {x : Int32} (hB : BI σ N) (hq : q < N) : kQ_covers σ q x = some (if mI σ 43 0 q ≤ x ∧ x < mI σ 44 0 q then 1 else 0, σ) := by
  obtain ⟨-, -, -, -, -, -, -, -, e4, e5, -⟩ := hB.2.2.2.1 q hq
  unfold kQ_covers
  rw [e4, e5]
  by_cases h1 : x < mI σ 43 0 q
  · rw [if_pos h1, if_neg (fun z => absurd z.1 (Int32.not_le.mpr h1))]
  · rw [if_neg h1]
    by_cases h2 : mI σ 44 0 q ≤ x
    · rw [if_pos h2, if_neg (fun z => absurd z.2 (Int32.not_lt.mpr h2))]
    · rw [if_neg h2, if_pos ⟨Int32.not_lt.mp h1, Int32.not_le.mp h2⟩]
theorem wnt_iff {σ : Mem} {q n : Nat} : wnt σ q n = true ↔ mI σ 40 0 q ≤ 2 ∧ mI σ 43 0 q ≤ nI n ∧ nI n < mI σ 44 0 q := by
  unfold wnt
  simp only [Bool.and_eq_true, decide_eq_true_eq]
theorem mWants_in {σ : Mem} {q n : Nat} (hq : q < 40) : kM_wants σ (nI q) (nI n) = some (if wnt σ q n = true then 1 else 0, σ) := by
  unfold kM_wants kM_stands
  simp only [inr_ hq, if_true, ix_ (show q < 2 ^ 31 by omega)]
  by_cases h1 : 2 < mI σ 40 0 q
  · rw [if_pos h1, if_neg (fun z => absurd (wnt_iff.mp z).1 (Int32.not_le.mpr h1))]
    rfl
  · rw [if_neg h1]
    simp only [Option.bind_some, show ¬ ((1 : Int32) = 0) by decide, if_false]
    by_cases h2 : nI n < mI σ 43 0 q
    · rw [if_pos h2, if_neg (fun z => absurd (wnt_iff.mp z).2.1 (Int32.not_le.mpr h2))]
    · rw [if_neg h2]
      by_cases h3 : mI σ 44 0 q ≤ nI n
      · rw [if_pos h3, if_neg (fun z => absurd (wnt_iff.mp z).2.2 (Int32.not_lt.mpr h3))]
      · rw [if_neg h3, if_pos (wnt_iff.mpr ⟨Int32.not_lt.mp h1, Int32.not_lt.mp h2, Int32.not_le.mp h3⟩)]
/-! how many go short -/
def mxp (f : Nat → Nat) : Nat → Nat
  | 0 => f 0
  | s + 1 => max (mxp f s) (f (s + 1))
def short (H : HV) (tk : TK) (nd : ND) : Nat := tot nd - mxp (pour H tk nd) (nd 4)
theorem mxp_sat (f : Nat → Nat) (m : Nat) (h : ∀ s, m ≤ s → f s = f m) : ∀ j, mxp f (m + j) = mxp f m
  | 0 => rfl
  | j + 1 => by
    show max (mxp f (m + j)) (f (m + j + 1)) = mxp f m
    rw [mxp_sat f m h j, h _ (by omega)]
    have : f m ≤ mxp f m := by
      cases m with
      | zero => exact Nat.le_refl _
      | succ m => exact Nat.le_max_right _ _
    omega
theorem pour_sat {H : HV} {tk : TK} {nd : ND} {s : Nat} (h : FS H tk ≤ s) : pour H tk nd s = pour H tk nd (FS H tk) := by
  unfold pour
  rw [Nat.min_eq_right h, Nat.min_self]
theorem pour_le {H : HV} {tk : TK} {nd : ND} {s : Nat} (h : s ≤ nd 4) : pour H tk nd s ≤ tot nd := by
  unfold pour tot
  omega
theorem pour_le3 {H : HV} {tk : TK} {nd : ND} {s : Nat} (h : s ≤ nd 4) : pour H tk nd s ≤ tot nd - (nd 0 - FK H tk 3) := by
  unfold pour tot
  generalize FK H tk 1 - 2 * min s (FS H tk) = x
  generalize FK H tk 0 + x - min (nd 2) x + (FK H tk 2 - min (nd 3) (FK H tk 2)) - min (nd 2 - min (nd 2) x) (FK H tk 2 - min (nd 3) (FK H tk 2)) = y
  generalize FK H tk 2 - min (nd 3) (FK H tk 2) = z
  omega
theorem mxp_le {H : HV} {tk : TK} {nd : ND} : ∀ s, s ≤ nd 4 → mxp (pour H tk nd) s ≤ tot nd
  | 0, h => pour_le h
  | s + 1, h => by
    have a := mxp_le (H := H) (tk := tk) (nd := nd) s (by omega)
    have b := pour_le (H := H) (tk := tk) (nd := nd) h
    show max _ _ ≤ _
    omega
theorem pour_eq {f1 a2 y k : Nat} (h : 2 * k ≤ f1) : min a2 (f1 - 2 * k) + min (a2 - min a2 (f1 - 2 * k)) y = min a2 (y + f1 - 2 * k) := by omega
theorem pour_alt {H : HV} {tk : TK} {nd : ND} {k : Nat} (hW : WH H) (hk : k ≤ FS H tk) : ∃ g d s, g ≤ nd 3 ∧ g ≤ FK H tk 2 ∧ d ≤ nd 2 ∧ s ≤ nd 1 ∧ g = min (nd 3) (FK H tk 2) ∧ d = min (nd 2) (FK H tk 2 - g + FK H tk 1 - 2 * k) ∧ s = min (nd 1) (FK H tk 2 - g + FK H tk 1 - 2 * k - d + FK H tk 0) ∧ pour H tk nd k = k + min (nd 0) (FK H tk 3) + g + d + s := by
  have gF := F1_ge (tk := tk) hW
  refine ⟨_, _, _, Nat.min_le_left _ _, Nat.min_le_right _ _, Nat.min_le_left _ _, Nat.min_le_left _ _, rfl, rfl, rfl, ?_⟩
  unfold pour
  rw [Nat.min_eq_left hk, pour_eq (show 2 * k ≤ FK H tk 1 by omega)]
  have h1 := pour_eq (f1 := FK H tk 1) (a2 := nd 2) (y := FK H tk 2 - min (nd 3) (FK H tk 2)) (k := k) (by omega)
  have hu := Nat.min_le_right (nd 2) (FK H tk 1 - 2 * k)
  have hv := Nat.min_le_right (nd 2 - min (nd 2) (FK H tk 1 - 2 * k)) (FK H tk 2 - min (nd 3) (FK H tk 2))
  have hg := Nat.min_le_right (nd 3) (FK H tk 2)
  generalize min (nd 2) (FK H tk 1 - 2 * k) = u at *
  generalize min (nd 3) (FK H tk 2) = g at *
  generalize min (nd 2 - u) (FK H tk 2 - g) = v at *
  generalize min (nd 2) (FK H tk 2 - g + FK H tk 1 - 2 * k) = z at *
  congr 2
  omega
theorem roomless_ok {σ : Mem} {H : HV} {tk : TK} {nd : ND} {k : Nat} (hW : WH H) (hV : VR σ H tk nd) (hb : ∀ w, w < 5 → nd w ≤ 300) (hk : k ≤ FS H tk) (hk4 : k ≤ nd 4) : kV_roomless σ (nI k) = some (nI (tot nd - (nd 0 - FK H tk 3) - pour H tk nd k), σ) := by
  obtain ⟨g, d, s, hg1, hg2, hd1, hs1, hg, hd, hs, hp⟩ := pour_alt (nd := nd) hW hk
  obtain ⟨-, h9, h10, h7⟩ := hV
  obtain ⟨i1, i2, i3, i4, i5, i6, i7, i8, i9⟩ := inr_lit
  obtain ⟨x0, x1, x2, x3, x4⟩ := ix_lit
  have g0 := FK_le (H := H) (tk := tk) (k := 0)
  have g1 := FK_le (H := H) (tk := tk) (k := 1)
  have g2 := FK_le (H := H) (tk := tk) (k := 2)
  have g3 := FK_le (H := H) (tk := tk) (k := 3)
  have gF := F1_ge (tk := tk) hW
  have b0 := hb 0 (by omega)
  have b1 := hb 1 (by omega)
  have b2 := hb 2 (by omega)
  have b3 := hb 3 (by omega)
  have b4 := hb 4 (by omega)
  unfold kV_roomless
  rw [hp]
  unfold tot
  simp only [i1, i2, i3, i4, i5, i6, i7, i8, i9, x0, x1, x2, x3, x4, if_true, h9 0 (by omega), h9 1 (by omega), h9 2 (by omega), h9 3 (by omega), h10 0 (by omega), h10 1 (by omega), h10 2 (by omega), h10 3 (by omega), h10 4 (by omega)]
  have hd2 : d ≤ FK H tk 2 - g + FK H tk 1 - 2 * k := by rw [hd]; exact Nat.min_le_right _ _
  have hs2 : s ≤ FK H tk 2 - g + FK H tk 1 - 2 * k - d + FK H tk 0 := by rw [hs]; exact Nat.min_le_right _ _
  rw [jminN (a := nd 3) (b := FK H tk 2) (by omega) (by omega), ← hg, show (2 : Int32) = nI 2 from rfl, pk_mul, pk_sub (a := FK H tk 2) (b := g) hg2, nI_add (FK H tk 2 - g) (FK H tk 1), pk_sub (a := FK H tk 2 - g + FK H tk 1) (b := 2 * k) (by omega), jminN (a := nd 2) (b := FK H tk 2 - g + FK H tk 1 - 2 * k) (by omega) (by omega), ← hd, pk_sub (a := FK H tk 2 - g + FK H tk 1 - 2 * k) (b := d) hd2, nI_add (FK H tk 2 - g + FK H tk 1 - 2 * k - d) (FK H tk 0), jminN (a := nd 1) (b := FK H tk 2 - g + FK H tk 1 - 2 * k - d + FK H tk 0) (by omega) (by omega), ← hs, nI_add, nI_add, nI_add]
  clear hd hs hg hd2 hs2
  rw [pk_sub (by omega), pk_sub (by omega), pk_sub (by omega), pk_sub (by omega)]
  congr 3
  omega
theorem shortage_ok {σ : Mem} {H : HV} {tk : TK} {nd : ND} (hW : WH H) (hV : VR σ H tk nd) (hb : ∀ w, w < 5 → nd w ≤ 300) : kV_shortage σ = some (nI (short H tk nd), σ) := by
  obtain ⟨i1, i2, i3, i4, i5, i6, i7, i8, i9⟩ := inr_lit
  obtain ⟨x0, x1, x2, x3, x4⟩ := ix_lit
  have gs := FS_le (H := H) (tk := tk)
  have b4 := hb 4 (by omega)
  have h10 := hV.2.2.1
  have h7 := hV.2.2.2
  have h9 := hV.2.1
  unfold kV_shortage
  simp only [i5, if_true, x4, h10 4 (by omega), h7]
  rw [jminN (by omega) (by omega), show (0 : Int32) = nI 0 from rfl, roomless_ok hW hV hb (by omega) (by omega)]
  simp only [Option.bind_some]
  obtain ⟨M, hM⟩ : ∃ M, M = min (nd 4) (FS H tk) := ⟨_, rfl⟩
  rw [← hM]
  have hT : tot nd < 5000 := by
    have := hb 0 (by omega)
    have := hb 1 (by omega)
    have := hb 2 (by omega)
    have := hb 3 (by omega)
    unfold tot
    omega
  have hloop : loopF FU (kV_shortage_s22 (nI M)) (nI (tot nd - (nd 0 - FK H tk 3) - pour H tk nd 0), 1, σ) = some (nI (tot nd - (nd 0 - FK H tk 3) - mxp (pour H tk nd) M), σ) := by
    refine lp_eq (fun j => (nI (tot nd - (nd 0 - FK H tk 3) - mxp (pour H tk nd) j), nI (j + 1), σ)) _ M (by omega) (fun j hj => ?_) ?_
    · simp only [kV_shortage_s22, nI_nlt (show j + 1 ≤ M by omega) (by omega), if_false, roomless_ok (k := j + 1) hW hV hb (by omega) (by omega), Option.bind_some]
      rw [jminN (by omega) (by omega), nI_1]
      show some (Sum.inl (_, _, _)) = some (Sum.inl (nI (tot nd - (nd 0 - FK H tk 3) - max (mxp (pour H tk nd) j) (pour H tk nd (j + 1))), _, _))
      congr 4
      omega
    · simp only [kV_shortage_s22, nI_lt (show M < M + 1 by omega) (by omega), if_true]
  rw [hloop]
  unfold kV_shortage_x43
  have g3 := FK_le (H := H) (tk := tk) (k := 3)
  have b0 := hb 0 (by omega)
  have hm : mxp (pour H tk nd) (nd 4) = mxp (pour H tk nd) M := by
    by_cases e : nd 4 ≤ FS H tk
    · rw [hM, Nat.min_eq_left e]
    · have := mxp_sat (pour H tk nd) (FS H tk) (fun s hs => pour_sat hs) (nd 4 - FS H tk)
      rw [show FS H tk + (nd 4 - FS H tk) = nd 4 by omega] at this
      rw [this, hM, Nat.min_eq_right (by omega)]
  have hle : mxp (pour H tk nd) M ≤ tot nd - (nd 0 - FK H tk 3) := by
    have aux : ∀ s, s ≤ nd 4 → mxp (pour H tk nd) s ≤ tot nd - (nd 0 - FK H tk 3) := by
      intro s
      induction s with
      | zero => intro _; exact pour_le3 (by omega)
      | succ s ih =>
        intro hs
        have a := ih (by omega)
        have b : pour H tk nd (s + 1) ≤ tot nd - (nd 0 - FK H tk 3) := pour_le3 hs
        show max _ _ ≤ _
        omega
    exact aux M (by omega)
  simp only [Option.bind_some, i1, i9, if_true, x0, x3, h10 0 (by omega), h9 3 (by omega)]
  rw [jmax0 (by omega) (by omega), nI_add]
  unfold short
  rw [hm]
  congr 3
  have : nd 0 ≤ tot nd := by unfold tot; omega
  omega
