/-! frames of what is said of the house -/
def HT : List Nat := [3, 4, 20, 31, 32, 33, 34, 35, 36, 37]
def nohit (ts l : List Nat) (m : List (Nat × Nat)) : Bool := ts.all (fun t => !l.contains t && m.all (fun z => z.1 != t))
theorem nohit_spec {ts l : List Nat} {m : List (Nat × Nat)} (h : nohit ts l m = true) {t : Nat} (ht : t ∈ ts) : t ∉ l ∧ ∀ k, (t, k) ∉ m := by
  have h1 := List.all_eq_true.mp h t ht
  simp only [Bool.and_eq_true, Bool.not_eq_true'] at h1
  refine ⟨fun hc => ?_, fun k hk => ?_⟩
  · have : l.contains t = true := by simpa using hc
    rw [this] at h1
    exact absurd h1.1 (by simp)
  · have := List.all_eq_true.mp h1.2 _ hk
    simp at this
section FR
variable {l : List Nat} {m : List (Nat × Nat)} {σ σ' : Mem}
theorem Fx.hI (h : Fx l m σ σ') {ts : List Nat} (hn : nohit ts l m = true) (t i k : Nat) (ht : t ∈ ts := by decide) : mI σ' t i k = mI σ t i k := (h.1 t i k (nohit_spec hn ht).1 ((nohit_spec hn ht).2 k)).1
theorem Fx.hL (h : Fx l m σ σ') {ts : List Nat} (hn : nohit ts l m = true) (t i k : Nat) (ht : t ∈ ts := by decide) : mL σ' t i k = mL σ t i k := (h.1 t i k (nohit_spec hn ht).1 ((nohit_spec hn ht).2 k)).2.1
theorem Fx.hR (h : Fx l m σ σ') {ts : List Nat} (hn : nohit ts l m = true) (t i k : Nat) (ht : t ∈ ts := by decide) : mR σ' t i k = mR σ t i k := (h.1 t i k (nohit_spec hn ht).1 ((nohit_spec hn ht).2 k)).2.2
theorem Fx.hV (h : Fx l m σ σ') {ts : List Nat} (_ : nohit ts l m = true) (t i : Nat) (_ : t ∈ ts := by decide) : mV σ' t i = mV σ t i := h.2 t i
theorem rm_fx (h : Fx l m σ σ') (hn : nohit HT l m = true) (p : Nat) : isRm σ' p = isRm σ p := by
  unfold isRm
  rw [h.hI hn 31 0 p]
theorem opn_fx (h : Fx l m σ σ') (hn : nohit HT l m = true) (p n : Nat) : opn σ' p n = opn σ p n := by
  unfold opn
  rw [rm_fx h hn, h.hI hn 37 0 p, h.hI hn 35 0 p, h.hL hn 36 0 p]
theorem hvW_fx (h : Fx l m σ σ') (hn : nohit HT l m = true) (o : Nat → Bool) : hvW σ' o = hvW σ o := by
  unfold hvW
  simp only [h.hI hn 31 0, h.hI hn 33 0, h.hI hn 34 0]
theorem hvN_fx (h : Fx l m σ σ') (hn : nohit HT l m = true) (n : Nat) : hvN σ' n = hvN σ n := by
  unfold hvN
  rw [hvW_fx h hn]
  congr 1
  exact funext fun p => opn_fx h hn p n
theorem hvS_fx (h : Fx l m σ σ') (hn : nohit HT l m = true) : hvS σ' = hvS σ := by
  unfold hvS
  rw [hvW_fx h hn]
  congr 1
  exact funext fun p => rm_fx h hn p
theorem HI.fx (h : Fx l m σ σ') (hn : nohit HT l m = true) (hI : HI σ) : HI σ' := by
  intro p hp
  have h0 := hI p hp
  unfold HIp at h0 ⊢
  simp only [rm_fx h hn, h.hI hn 31 0, h.hI hn 32 0, h.hI hn 33 0, h.hI hn 34 0, h.hI hn 35 0, h.hI hn 37 0, h.hL hn 36 0, h.hI hn 20 p, h.hL hn 20 p, h.hV hn 20 p, h.hR hn 3 0, h.hI hn 4 0]
  exact h0
end FR
/-! bits -/
theorem bitI : ∀ m, m < 64 → ∀ b, b < 8 → ((nI m >>> (nI b &&& 31)) &&& 1) = if m.testBit b = true then 1 else 0 := by decide +kernel
theorem xorI : ∀ m, m < 64 → ∀ b, b < 6 → (nI m ^^^ ((1 : Int32) <<< (nI b &&& 31))) = nI (m ^^^ 2 ^ b) ∧ m ^^^ 2 ^ b < 64 := by decide +kernel
theorem maskI : ∀ u, u < 7 → ((1 : Int32) <<< (nI u &&& 31)) - 1 = nI (2 ^ u - 1) ∧ 2 ^ u - 1 < 64 := by decide +kernel
theorem codeI : ∀ s, s < 512 → (nI s >>> ((5 : Int32) &&& 31)) = nI (s / 32) ∧ ((nI s >>> ((2 : Int32) &&& 31)) &&& 7) = nI (s % 32 / 4) ∧ (nI s &&& 1) = nI (s % 2) := by decide +kernel
theorem ctI : ∀ u, u < 7 → fb_ct (fun b => decide (b < u)) 6 = u := by decide
theorem inr_lit : inR 0 5 = true ∧ inR 1 5 = true ∧ inR 2 5 = true ∧ inR 3 5 = true ∧ inR 4 5 = true ∧ inR 0 4 = true ∧ inR 1 4 = true ∧ inR 2 4 = true ∧ inR 3 4 = true := by decide
theorem ix_lit : ix 0 = 0 ∧ ix 1 = 1 ∧ ix 2 = 2 ∧ ix 3 = 3 ∧ ix 4 = 4 := by decide
theorem fc_le6 {H : HV} {tk : TK} {p : Nat} : fc H tk p ≤ 6 := fb_ct_le _ 6
theorem FK_le {H : HV} {tk : TK} {k : Nat} : FK H tk k ≤ 96 := fb_sm_bound (c := 6) fun p _ => by
  split
  · exact fc_le6
  · omega
theorem FS_le {H : HV} {tk : TK} : FS H tk ≤ 16 := fb_ct_le _ 16
/-! the class's Vacancy holds what is free, and how many want what -/
def VR (σ : Mem) (H : HV) (tk : TK) (nd : ND) : Prop :=
  (∀ p, p < 16 → ∃ m, m < 64 ∧ mI σ 8 0 p = nI m ∧ ∀ b, m.testBit b = fu H tk p b) ∧ (∀ k, k < 4 → mI σ 9 0 k = nI (FK H tk k)) ∧ (∀ w, w < 5 → mI σ 10 0 w = nI (nd w)) ∧ mI σ 7 0 4 = nI (FS H tk)
theorem isFree_in {σ : Mem} {p b m : Nat} (hp : p < 16) (hb : b < 8) (hm : m < 64) (h : mI σ 8 0 p = nI m) : kV_isFree σ (nI p) (nI b) = some (if m.testBit b = true then 1 else 0, σ) := by
  unfold kV_isFree
  rw [if_neg nn0, if_neg (show ¬ (16 : Int32) ≤ nI p from nge hp), if_pos (inr_ hp), ix_, h, bitI m hm b hb]
  by_cases e : m.testBit b = true
  · rw [if_pos e, if_pos rfl]
  · rw [if_neg e, if_neg (by decide)]
theorem isFree_out {σ : Mem} {x b : Int32} (h : x < 0 ∨ nI 16 ≤ x) : kV_isFree σ x b = some (0, σ) := by
  unfold kV_isFree
  by_cases h0 : x < 0
  · rw [if_pos h0]
  · rw [if_neg h0, if_pos (show (16 : Int32) ≤ x from h.resolve_left h0)]
theorem isFree_VR {σ : Mem} {H : HV} {tk : TK} {nd : ND} {p b : Nat} (hW : WH H) (hV : VR σ H tk nd) (hp : p ≤ 16) (hb : b < 8) : kV_isFree σ (nI p) (nI b) = some (if fu H tk p b = true then 1 else 0, σ) := by
  by_cases h : p < 16
  · obtain ⟨m, h1, h2, h3⟩ := hV.1 p h
    rw [isFree_in h hb h1 h2, h3 b]
  · obtain rfl : p = 16 := by omega
    rw [isFree_out (Or.inr (nle (Nat.le_refl 16)))]
    have : fu H tk 16 b = false := by
      unfold fu
      rw [hW.1 16 (by omega)]
      rfl
    rw [this]
    rfl
theorem addNeed_in {σ : Mem} {w : Nat} (hw : w < 5) : kV_addNeed σ (nI w) = some ((), sI σ 10 0 w (mI σ 10 0 w + 1)) := by
  unfold kV_addNeed
  rw [isWant_in hw]
  simp only [Option.bind_some, inr_ hw, if_true, ix_ (show w < 2 ^ 31 by omega), show ¬ ((1 : Int32) = 0) by decide, if_false]
theorem addNeed_no {σ : Mem} : kV_addNeed σ (-1) = some ((), σ) := by
  unfold kV_addNeed
  rw [isWant_out (Or.inl (by decide))]
  rfl
theorem dropNeed_in {σ : Mem} {w : Nat} (hw : w < 5) : kV_dropNeed σ (nI w) = some ((), sI σ 10 0 w (mI σ 10 0 w - 1)) := by
  unfold kV_dropNeed
  rw [isWant_in hw]
  simp only [Option.bind_some, inr_ hw, if_true, ix_ (show w < 2 ^ 31 by omega), show ¬ ((1 : Int32) = 0) by decide, if_false]
theorem VR.need {σ : Mem} {H : HV} {tk : TK} {nd : ND} {w : Nat} {v : Nat} (hV : VR σ H tk nd) : VR (sI σ 10 0 w (nI v)) H tk (nds nd w v) := by
  obtain ⟨h1, h2, h3, h4⟩ := hV
  refine ⟨fun p hp => ?_, fun k hk => ?_, fun w' hw' => ?_, ?_⟩
  · obtain ⟨m, a, b, c⟩ := h1 p hp
    exact ⟨m, a, by rw [mIsI, if_neg (by omega)]; exact b, c⟩
  · rw [mIsI, if_neg (by omega)]; exact h2 k hk
  · rw [mIsI]
    unfold nds
    by_cases e : w' = w
    · rw [if_pos ⟨rfl, rfl, e⟩, if_pos e]
    · rw [if_neg (fun z => e z.2.2), if_neg e]; exact h3 w' hw'
  · rw [mIsI, if_neg (by omega)]; exact h4
theorem addNeed_ok {σ : Mem} {H : HV} {tk : TK} {nd : ND} {w : Nat} (hw : w < 5) (hV : VR σ H tk nd) : ∃ σ', kV_addNeed σ (nI w) = some ((), σ') ∧ Fx [10] [] σ σ' ∧ VR σ' H tk (nds nd w (nd w + 1)) := by
  refine ⟨_, addNeed_in hw, Fx.rf.sI, ?_⟩
  rw [hV.2.2.1 w hw, nI_1]
  exact hV.need
theorem dropNeed_ok {σ : Mem} {H : HV} {tk : TK} {nd : ND} {w : Nat} (hw : w < 5) (hV : VR σ H tk nd) (h1 : 1 ≤ nd w) : ∃ σ', kV_dropNeed σ (nI w) = some ((), σ') ∧ Fx [10] [] σ σ' ∧ VR σ' H tk (nds nd w (nd w - 1)) := by
  refine ⟨_, dropNeed_in hw, Fx.rf.sI, ?_⟩
  rw [hV.2.2.1 w hw, show (1 : Int32) = nI 1 from rfl, pk_sub h1]
  exact hV.need
theorem fits_ok {σ : Mem} {H : HV} {tk : TK} {nd : ND} (hW : WH H) (hV : VR σ H tk nd) (hb : ∀ w, w < 5 → nd w ≤ 300) : kV_fits σ = some (if fit H tk nd = true then 1 else 0, σ) := by
  obtain ⟨-, h9, h10, h7⟩ := hV
  obtain ⟨i1, i2, i3, i4, i5, i6, i7, i8, i9⟩ := inr_lit
  obtain ⟨x0, x1, x2, x3, x4⟩ := ix_lit
  have g0 := FK_le (H := H) (tk := tk) (k := 0)
  have g1 := FK_le (H := H) (tk := tk) (k := 1)
  have g2 := FK_le (H := H) (tk := tk) (k := 2)
  have g3 := FK_le (H := H) (tk := tk) (k := 3)
  have gs := FS_le (H := H) (tk := tk)
  have gF := F1_ge (tk := tk) hW
  have b0 := hb 0 (by omega)
  have b1 := hb 1 (by omega)
  have b2 := hb 2 (by omega)
  have b3 := hb 3 (by omega)
  have b4 := hb 4 (by omega)
  unfold kV_fits fit
  simp only [i1, i2, i3, i4, i5, i6, i7, i8, i9, x0, x1, x2, x3, x4, if_true, h9 0 (by omega), h9 1 (by omega), h9 2 (by omega), h9 3 (by omega), h10 0 (by omega), h10 1 (by omega), h10 2 (by omega), h10 3 (by omega), h10 4 (by omega), h7, decide_eq_true_eq]
  by_cases c1 : FK H tk 3 < nd 0
  · rw [if_pos (nI_lt c1 (by omega)), if_neg (by omega)]
  · rw [if_neg (nI_nlt (Nat.not_lt.mp c1) (by omega))]
    by_cases c2 : FS H tk < nd 4
    · rw [if_pos (nI_lt c2 (by omega)), if_neg (by omega)]
    · rw [if_neg (nI_nlt (Nat.not_lt.mp c2) (by omega))]
      by_cases c3 : FK H tk 2 < nd 3
      · rw [if_pos (nI_lt c3 (by omega)), if_neg (by omega)]
      · rw [if_neg (nI_nlt (Nat.not_lt.mp c3) (by omega)), nI_add, show (2 : Int32) = nI 2 from rfl, pk_mul, pk_sub (by omega), nI_add, nI_add, nI_add]
        by_cases c4 : FK H tk 2 + FK H tk 1 - 2 * nd 4 < nd 3 + nd 2
        · rw [if_pos (nI_lt c4 (by omega)), if_neg (by omega)]
        · rw [if_neg (nI_nlt (Nat.not_lt.mp c4) (by omega))]
          by_cases c5 : FK H tk 2 + FK H tk 1 - 2 * nd 4 + FK H tk 0 < nd 3 + nd 2 + nd 1
          · rw [if_pos (nI_lt c5 (by omega)), if_neg (by omega)]
          · rw [if_neg (nI_nlt (Nat.not_lt.mp c5) (by omega)), if_pos (by omega)]
