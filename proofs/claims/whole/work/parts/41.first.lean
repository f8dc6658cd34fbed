def cd (o : Option Nat) : Int32 := match o with
  | none => -1
  | some s => nI s
theorem fst_yes {H : HV} {w s : Nat} {x : TK × ND} (hs : s < 512) (h1 : (give H w s x).isSome = true) (h2 : ∀ s', s' < s → give H w s' x = none) : fstS H w x = some s := by
  unfold fstS
  rw [List.find?_range_eq_some]
  refine ⟨h1, List.mem_range.mpr hs, fun j hj => ?_⟩
  rw [h2 j hj]
  rfl
theorem fst_no {H : HV} {w : Nat} {x : TK × ND} (h2 : ∀ s', s' < 512 → give H w s' x = none) : fstS H w x = none := by
  unfold fstS
  rw [List.find?_eq_none]
  intro s hs
  rw [h2 s (List.mem_range.mp hs)]
  simp
theorem give_nos {H : HV} {w s : Nat} {x : TK × ND} (h : ¬ suS H w s = true) : give H w s x = none := if_neg (fun z => h z.1)
theorem suS_iff {H : HV} {w s : Nat} : suS H w s = true ↔ H.1 (s / 32) = true ∧ s < 512 ∧ s % 4 ≤ 1 ∧ (s % 4 = 1 ↔ w = 4) ∧ (H.2.1 (s / 32) = 3 ↔ w = 0) ∧ s % 32 / 4 < H.2.2.1 (s / 32) ∧ (w = 2 → H.2.1 (s / 32) ≠ 0) ∧ (w = 3 → H.2.1 (s / 32) = 2) ∧ (w = 4 → H.2.1 (s / 32) = 1 ∧ H.2.2.2 (s / 32) = s / 32 + 1) := by
  unfold suS
  simp only [Bool.and_eq_true, decide_eq_true_eq]
theorem suS_NS {σ : Mem} {n w s : Nat} (h : suS (hvS σ) w s = true) (ho : opn σ (s / 32) n = true) : suS (hvN σ n) w s = true := by
  obtain ⟨a, b, c⟩ := hvN_S ho
  rw [suS_iff] at h ⊢
  rw [a, b, c]
  exact ⟨ho, h.2⟩
theorem suS_SN {σ : Mem} {n w s : Nat} (h : suS (hvN σ n) w s = true) : suS (hvS σ) w s = true := by
  have ho : opn σ (s / 32) n = true := (suS_iff.mp h).1
  obtain ⟨a, b, c⟩ := hvN_S ho
  rw [suS_iff] at h ⊢
  rw [a, b, c] at h
  exact ⟨opn_rm ho, h.2⟩
theorem frS_open {σ : Mem} {n s : Nat} {tk : TK} (h : frS (hvN σ n) tk s = true) : opn σ (s / 32) n = true := by
  unfold frS at h
  simp only [Bool.and_eq_true] at h
  exact (fu_iff.mp h.1).1
theorem code1 {p : Nat} : ((32 * nI p) + (4 * (0 : Int32))) + 1 = nI (32 * p + 1) := by
  rw [show (32 : Int32) = nI 32 from rfl, pk_mul, show (4 * (0 : Int32)) = nI 0 from rfl, nI_add, nI_1]
theorem code0 {p b : Nat} : ((32 * nI p) + (4 * nI b)) + 0 = nI (32 * p + 4 * b) := by
  rw [show (32 : Int32) = nI 32 from rfl, show (4 : Int32) = nI 4 from rfl, pk_mul, pk_mul, nI_add, Int32.add_zero]
/-- what the search for a first spot ends with -/
def FR1 (H : HV) (w : Nat) (tk : TK) (nd : ND) (r : Int32) (σ' : Mem) : Prop :=
  (∃ s y, fstS H w (tk, nd) = some s ∧ s < 512 ∧ give H w s (tk, nd) = some y ∧ r = nI s ∧ VR σ' H y.1 y.2) ∨ (fstS H w (tk, nd) = none ∧ r = -1 ∧ VR σ' H tk nd)
theorem firstSuite_ok {σ : Mem} {H : HV} {n : Nat} {tk : TK} {nd : ND} (hI : HI σ) (hH : hvN σ n = H) (hV : VR σ H tk nd) (hb : ∀ w, w < 5 → nd w ≤ 300) (h1 : 1 ≤ nd 4) :
    ∃ r σ', kP_firstSuite σ = some (r, σ') ∧ Fx [8, 9, 10] [(7, 4)] σ σ' ∧ FR1 H 4 tk nd r σ' := by
  have hW : WH H := by rw [← hH]; exact WHN hI
  unfold kP_firstSuite
  obtain ⟨e, l1, l2⟩ := lp_inv (f := kP_firstSuite_s2) (fun p s => ∃ τ, s = (nI p, τ) ∧ Fx [8, 9, 10] [(7, 4)] σ τ ∧ VR τ H tk nd ∧ ∀ s', s' < 32 * p → give H 4 s' (tk, nd) = none)
    (fun e => (∃ s y τ, e = .inl (nI s, τ) ∧ Fx [8, 9, 10] [(7, 4)] σ τ ∧ fstS H 4 (tk, nd) = some s ∧ s < 512 ∧ give H 4 s (tk, nd) = some y ∧ VR τ H y.1 y.2) ∨ (∃ τ, e = .inr τ ∧ Fx [8, 9, 10] [(7, 4)] σ τ ∧ fstS H 4 (tk, nd) = none ∧ VR τ H tk nd)) 16 (by omega) (fun p s hp hs => by
    obtain ⟨τ, rfl, a1, a2, a3⟩ := hs
    have hIt := HI.fx a1 rfl hI
    have hHt : hvN τ n = H := by rw [hvN_fx a1 rfl]; exact hH
    have hsc : kG_spotCode τ (nI p) 0 1 = some (nI (32 * p + 1), τ) := by
      unfold kG_spotCode
      rw [if_neg (by decide), code1]
    have hblk : (∀ s', s' / 32 = p → suS H 4 s' = true → False) → ∃ s', some (Sum.inl (nI p + 1, τ)) = some (Sum.inl (β := (Int32 × Mem) ⊕ Mem) s') ∧ ∃ τ', s' = (nI (p + 1), τ') ∧ Fx [8, 9, 10] [(7, 4)] σ τ' ∧ VR τ' H tk nd ∧ ∀ s', s' < 32 * (p + 1) → give H 4 s' (tk, nd) = none := fun hno =>
      ⟨_, rfl, τ, by rw [nI_1], a1, a2, fun s' hs' => by
        by_cases e : s' < 32 * p
        · exact a3 s' e
        · exact give_nos (fun z => hno s' (by omega) z)⟩
    simp only [kP_firstSuite_s2, show ¬ (16 : Int32) ≤ nI p from nge hp, if_false, roomAt_in hIt hp, Option.bind_some, hsc]
    by_cases hr : isRm τ p = true
    · rw [if_pos hr]
      simp only [Option.elim_some]
      rw [((hIt p hp).2.2.2.2.2.2.1 hr).2.2.2.1]
      obtain ⟨-, -, -, -, -, -, -, hd⟩ := hIt p hp
      have hdr : ∀ s', s' / 32 = p → suS H 4 s' = true → mI τ 34 0 p = nI (p + 1) := fun s' hs' hsu => by
        obtain ⟨g1, -, -, -, -, -, -, -, g2⟩ := suS_iff.mp hsu
        have g3 := (g2 rfl).2
        rw [hs', ← hHt] at g3
        rw [hs', ← hHt] at g1
        rw [dr_of g1] at g3
        rcases hd with d | ⟨d1, d2, -⟩ | ⟨d1, d2, -⟩
        · rw [if_pos d] at g3; omega
        · exact d2
        · rw [d2, if_neg (nm1 _ (by omega)), ix_] at g3; omega
      rcases hd with d | ⟨d1, d2, d3, d4, d5⟩ | ⟨d1, d2, -⟩
      · rw [d, if_pos (Int32.le_of_lt (Int32.lt_of_lt_of_le (show (-1 : Int32) < 0 by decide) (nI_pos' (by omega))))]
        refine Or.inl (hblk fun s' hs' hsu => ?_)
        have := hdr s' hs' hsu
        rw [d] at this
        exact nm1 _ (by omega) this.symm
      · rw [d2, if_neg (nge (by omega))]
        obtain ⟨c1, c2, c3⟩ := code_s (p := p)
        have hsu : frS H tk (32 * p + 1) = true → suS H 4 (32 * p + 1) = true := fun hf => by
          rw [← hHt] at hf ⊢
          have ho := frS_open hf
          rw [c1] at ho
          rw [suS_iff, c1, c2, c3, kd_N ho, dr_of ho, d2, d3, if_neg (nm1 _ (by omega)), ix_]
          have hun : (hvN τ n).2.2.1 p = 1 := ((WHN hIt).2 p hp ho).2.1 (by rw [kd_N ho, d3]; decide)
          rw [hun]
          refine ⟨ho, by omega, by omega, by simp, by decide, by omega, by simp, by simp, fun _ => ⟨by decide, rfl⟩⟩
        obtain ⟨r, τ', t1, t2, t3⟩ := take_ok (s := 32 * p + 1) (w := 4) hIt hHt a2 hb (by omega) h1 (by omega) (by omega) hsu
        rw [show kV_take τ (nI (32 * p + 1)) 4 = some (r, τ') from t1]
        simp only [Option.bind_some]
        rcases t3 with ⟨rfl, y, g1, g2⟩ | ⟨rfl, g1, g2⟩
        · rw [if_neg (by decide)]
          refine Or.inr ⟨_, rfl, Or.inl ⟨32 * p + 1, y, τ', rfl, a1.tr t2, fst_yes (by omega) (by rw [g1]; rfl) (fun s' hs' => ?_), by omega, g1, g2⟩⟩
          by_cases e : s' < 32 * p
          · exact a3 s' e
          · refine give_nos (fun z => ?_)
            have := (suS_iff.mp z).2.2.2.1
            omega
        · rw [if_pos rfl]
          refine Or.inl ⟨_, rfl, τ', by rw [nI_1], a1.tr t2, g2, fun s' hs' => ?_⟩
          by_cases e : s' < 32 * p
          · exact a3 s' e
          · by_cases e2 : s' = 32 * p + 1
            · rw [e2]; exact g1
            · refine give_nos (fun z => ?_)
              obtain ⟨z1, z2, z3, z4, z5, z6, z7, z8, z9⟩ := suS_iff.mp z
              have hun := (hW.2 (s' / 32) (by omega) z1).2.1 (by rw [(z9 rfl).1]; decide)
              rw [hun] at z6
              have := z4.mpr rfl
              omega
      · rw [d2, if_pos (nle (by omega))]
        refine Or.inl (hblk fun s' hs' hsu => ?_)
        have := hdr s' hs' hsu
        rw [d2] at this
        have := (nI_eq (by omega) (by omega)).mp this
        omega
    · rw [if_neg hr]
      simp only [Option.elim_none]
      refine Or.inl (hblk fun s' hs' hsu => ?_)
      have g1 := (suS_iff.mp hsu).1
      rw [hs', ← hHt] at g1
      exact hr (opn_rm g1)) (fun s hs => by
    obtain ⟨τ, rfl, a1, a2, a3⟩ := hs
    exact ⟨.inr τ, by simp only [kP_firstSuite_s2, show (16 : Int32) ≤ nI 16 from nle (Nat.le_refl 16), if_true], Or.inr ⟨τ, rfl, a1, fst_no a3, a2⟩⟩) (s := (0, σ)) ⟨σ, rfl, Fx.rf, hV, fun s' hs' => by omega⟩
  rw [l1]
  rcases l2 with ⟨s, y, τ, rfl, g1, g2, g3, g4, g5⟩ | ⟨τ, rfl, g1, g2, g3⟩
  · exact ⟨nI s, τ, rfl, g1, Or.inl ⟨s, y, g2, g3, g4, rfl, g5⟩⟩
  · exact ⟨-1, τ, rfl, g1, Or.inr ⟨g2, rfl, g3⟩⟩
def sutB (k w : Nat) : Bool := decide ((k = 3 ↔ w = 0) ∧ (w = 2 → k ≠ 0) ∧ (w = 3 → k = 2) ∧ w ≠ 4)
theorem suits_in {σ : Mem} {p w : Nat} (hI : HI σ) (hr : isRm σ p = true) (hw : w < 5) : kR_suits σ p (nI w) = some (if sutB (ix (mI σ 31 0 p)) w = true then 1 else 0, σ) := by
  have f0 := ((hI p (rm_lt hr)).2.2.2.2.2.2.1 hr).1
  unfold kR_suits
  rw [f0]
  rcases (show w = 0 ∨ w = 1 ∨ w = 2 ∨ w = 3 ∨ w = 4 by omega) with rfl | rfl | rfl | rfl | rfl <;> rcases kd_of hI hr with e | e | e | e <;> rw [e] <;> rfl
theorem firstUnit_in {σ : Mem} {H : HV} {n w p u : Nat} {tk : TK} {nd : ND} (hI : HI σ) (hH : hvN σ n = H) (hV : VR σ H tk nd) (hb : ∀ w, w < 5 → nd w ≤ 300) (hw : w < 4) (h1 : 1 ≤ nd w) (hp : p < 16) (hu6 : u ≤ 6)
    (hu : ∀ b, b < u → opn σ p n = true → b < H.2.2.1 p ∧ sutB (H.2.1 p) w = true) (h0 : ∀ s', s' < 32 * p → give H w s' (tk, nd) = none) :
    ∃ e, loopF FU (kP_firstUnit_s42 (nI w) (nI p) (nI u)) (0, σ) = some e ∧ ((∃ s y τ, e = .inl (nI s, τ) ∧ Fx [8, 9, 10] [(7, 4)] σ τ ∧ fstS H w (tk, nd) = some s ∧ s < 512 ∧ give H w s (tk, nd) = some y ∧ VR τ H y.1 y.2) ∨ (∃ τ, e = .inr τ ∧ Fx [8, 9, 10] [(7, 4)] σ τ ∧ VR τ H tk nd ∧ ∀ s', s' < 32 * p + 4 * u → give H w s' (tk, nd) = none)) := by
  refine lp_inv (f := kP_firstUnit_s42 (nI w) (nI p) (nI u)) (fun b s => ∃ τ, s = (nI b, τ) ∧ Fx [8, 9, 10] [(7, 4)] σ τ ∧ VR τ H tk nd ∧ ∀ s', s' < 32 * p + 4 * b → give H w s' (tk, nd) = none)
    (fun e => (∃ s y τ, e = .inl (nI s, τ) ∧ Fx [8, 9, 10] [(7, 4)] σ τ ∧ fstS H w (tk, nd) = some s ∧ s < 512 ∧ give H w s (tk, nd) = some y ∧ VR τ H y.1 y.2) ∨ (∃ τ, e = .inr τ ∧ Fx [8, 9, 10] [(7, 4)] σ τ ∧ VR τ H tk nd ∧ ∀ s', s' < 32 * p + 4 * u → give H w s' (tk, nd) = none)) u (by omega) (fun b s hbu hs => ?_) (fun s hs => ?_) (s := (0, σ)) ⟨σ, rfl, Fx.rf, hV, fun s' hs' => h0 s' (by omega)⟩
  · obtain ⟨τ, rfl, a1, a2, a3⟩ := hs
    have hIt := HI.fx a1 rfl hI
    have hHt : hvN τ n = H := by rw [hvN_fx a1 rfl]; exact hH
    have hsc : kG_spotCode τ (nI p) (nI b) 0 = some (nI (32 * p + 4 * b), τ) := by
      unfold kG_spotCode
      rw [if_pos rfl, code0]
    obtain ⟨c1, c2, c3⟩ := code_u (p := p) (b := b) (by omega)
    have hsu : frS H tk (32 * p + 4 * b) = true → suS H w (32 * p + 4 * b) = true := fun hf => by
      have ho : opn σ p n = true := by
        have := hf
        rw [← hH] at this
        have := frS_open this
        rw [c1] at this
        exact this
      obtain ⟨u1, u2⟩ := hu b hbu ho
      unfold sutB at u2
      simp only [decide_eq_true_eq] at u2
      rw [suS_iff, c1, c2, c3]
      refine ⟨by rw [← hH]; exact ho, by omega, by omega, ⟨fun h => by omega, fun h => by omega⟩, u2.1, u1, u2.2.1, u2.2.2.1, fun h => by omega⟩
    obtain ⟨r, τ', t1, t2, t3⟩ := take_ok (s := 32 * p + 4 * b) (w := w) hIt hHt a2 hb (by omega) h1 (by omega) (by omega) hsu
    simp only [kP_firstUnit_s42, nge hbu (by omega), if_false, hsc, Option.bind_some, t1]
    rcases t3 with ⟨rfl, y, g1, g2⟩ | ⟨rfl, g1, g2⟩
    · rw [if_neg (by decide)]
      exact Or.inr ⟨_, rfl, Or.inl ⟨32 * p + 4 * b, y, τ', rfl, a1.tr t2, fst_yes (by omega) (by rw [g1]; rfl) a3, by omega, g1, g2⟩⟩
    · rw [if_pos rfl]
      refine Or.inl ⟨_, rfl, τ', by rw [nI_1], a1.tr t2, g2, fun s' hs' => ?_⟩
      by_cases e : s' < 32 * p + 4 * b
      · exact a3 s' e
      · by_cases e2 : s' = 32 * p + 4 * b
        · rw [e2]; exact g1
        · refine give_nos (fun z => ?_)
          obtain ⟨z1, z2, z3, z4, -⟩ := suS_iff.mp z
          have := z4.mp (by omega)
          omega
  · obtain ⟨τ, rfl, a1, a2, a3⟩ := hs
    exact ⟨.inr τ, by simp only [kP_firstUnit_s42, nle (Nat.le_refl u) (by omega), if_true], Or.inr ⟨τ, rfl, a1, a2, a3⟩⟩
theorem firstUnit_ok {σ : Mem} {H : HV} {n w : Nat} {tk : TK} {nd : ND} (hI : HI σ) (hH : hvN σ n = H) (hV : VR σ H tk nd) (hb : ∀ w, w < 5 → nd w ≤ 300) (hw : w < 4) (h1 : 1 ≤ nd w) :
    ∃ r σ', kP_firstUnit σ (nI w) = some (r, σ') ∧ Fx [8, 9, 10] [(7, 4)] σ σ' ∧ FR1 H w tk nd r σ' := by
  have hW : WH H := by rw [← hH]; exact WHN hI
  unfold kP_firstUnit
  obtain ⟨e, l1, l2⟩ := lp_inv (f := kP_firstUnit_s2 (nI w)) (fun p s => ∃ τ, s = (nI p, τ) ∧ Fx [8, 9, 10] [(7, 4)] σ τ ∧ VR τ H tk nd ∧ ∀ s', s' < 32 * p → give H w s' (tk, nd) = none)
    (fun e => (∃ s y τ, e = .inl (nI s, τ) ∧ Fx [8, 9, 10] [(7, 4)] σ τ ∧ fstS H w (tk, nd) = some s ∧ s < 512 ∧ give H w s (tk, nd) = some y ∧ VR τ H y.1 y.2) ∨ (∃ τ, e = .inr τ ∧ Fx [8, 9, 10] [(7, 4)] σ τ ∧ fstS H w (tk, nd) = none ∧ VR τ H tk nd)) 16 (by omega) (fun p s hp hs => by
    obtain ⟨τ, rfl, a1, a2, a3⟩ := hs
    have hIt := HI.fx a1 rfl hI
    have hHt : hvN τ n = H := by rw [hvN_fx a1 rfl]; exact hH
    have key : ∀ u, u ≤ 6 → (∀ b, b < u → opn τ p n = true → b < H.2.2.1 p ∧ sutB (H.2.1 p) w = true) → (∀ s', s' / 32 = p → u ≤ s' % 32 / 4 → ¬ suS H w s' = true) → (∃ s', kP_firstUnit_j37 τ (nI w) (nI p) (nI u) = some (.inl s') ∧ ∃ τ', s' = (nI (p + 1), τ') ∧ Fx [8, 9, 10] [(7, 4)] σ τ' ∧ VR τ' H tk nd ∧ ∀ s', s' < 32 * (p + 1) → give H w s' (tk, nd) = none) ∨ ∃ e, kP_firstUnit_j37 τ (nI w) (nI p) (nI u) = some (.inr e) ∧ ((∃ s y τ, e = .inl (nI s, τ) ∧ Fx [8, 9, 10] [(7, 4)] σ τ ∧ fstS H w (tk, nd) = some s ∧ s < 512 ∧ give H w s (tk, nd) = some y ∧ VR τ H y.1 y.2) ∨ (∃ τ, e = .inr τ ∧ Fx [8, 9, 10] [(7, 4)] σ τ ∧ fstS H w (tk, nd) = none ∧ VR τ H tk nd)) := by
      intro u hu6 hu hrest
      obtain ⟨e, k1, k2⟩ := firstUnit_in hIt hHt a2 hb hw h1 hp hu6 hu a3
      unfold kP_firstUnit_j37
      rw [k1]
      rcases k2 with ⟨s, y, τ', rfl, g1, g2, g3, g4, g5⟩ | ⟨τ', rfl, g1, g2, g3⟩
      · exact Or.inr ⟨_, rfl, Or.inl ⟨s, y, τ', rfl, a1.tr g1, g2, g3, g4, g5⟩⟩
      · refine Or.inl ⟨(nI (p + 1), τ'), ?_, τ', rfl, a1.tr g1, g2, fun s' hs' => ?_⟩
        · simp only [Option.bind_some, Sum.elim_inr, kP_firstUnit_x80, nI_1]
        · by_cases e : s' < 32 * p + 4 * u
          · exact g3 s' e
          · exact give_nos (hrest s' (by omega) (by omega))
    simp only [kP_firstUnit_s2, show ¬ (16 : Int32) ≤ nI p from nge hp, if_false, roomAt_in hIt hp, Option.bind_some]
    by_cases hr : isRm τ p = true
    · rw [if_pos hr]
      simp only [Option.elim_some, suits_in hIt hr (show w < 5 by omega), Option.bind_some]
      by_cases hst : sutB (ix (mI τ 31 0 p)) w = true
      · rw [if_pos hst, if_neg (by decide)]
        obtain ⟨u, u1, u2, u3, u4, -, -⟩ := units_in hIt hr
        rw [u3]
        simp only [Option.bind_some]
        refine key u u2 (fun b hbu ho => ⟨by rw [← hHt, (hvN_S ho).2.1, ← u4]; exact hbu, by rw [← hHt, kd_N ho]; exact hst⟩) (fun s' hs' hu' z => ?_)
        obtain ⟨z1, -, -, -, -, z6, -⟩ := suS_iff.mp z
        rw [hs', ← hHt] at z1 z6
        rw [(hvN_S z1).2.1, ← u4] at z6
        omega
      · rw [if_neg hst, if_pos rfl]
        unfold kP_firstUnit_j36
        refine key 0 (by omega) (fun b hb0 => by omega) (fun s' hs' hu' z => ?_)
        obtain ⟨z1, z2, z3, z4, z5, z6, z7, z8, z9⟩ := suS_iff.mp z
        rw [hs', ← hHt] at z1 z5 z7 z8
        rw [kd_N z1] at z5 z7 z8
        apply hst
        unfold sutB
        simp only [decide_eq_true_eq]
        exact ⟨z5, z7, z8, by omega⟩
    · rw [if_neg hr]
      simp only [Option.elim_none]
      unfold kP_firstUnit_j36
      refine key 0 (by omega) (fun b hb0 => by omega) (fun s' hs' hu' z => ?_)
      have g1 := (suS_iff.mp z).1
      rw [hs', ← hHt] at g1
      exact hr (opn_rm g1)) (fun s hs => by
    obtain ⟨τ, rfl, a1, a2, a3⟩ := hs
    exact ⟨.inr τ, by simp only [kP_firstUnit_s2, show (16 : Int32) ≤ nI 16 from nle (Nat.le_refl 16), if_true], Or.inr ⟨τ, rfl, a1, fst_no a3, a2⟩⟩) (s := (0, σ)) ⟨σ, rfl, Fx.rf, hV, fun s' hs' => by omega⟩
  rw [l1]
  rcases l2 with ⟨s, y, τ, rfl, g1, g2, g3, g4, g5⟩ | ⟨τ, rfl, g1, g2, g3⟩
  · exact ⟨nI s, τ, rfl, g1, Or.inl ⟨s, y, g2, g3, g4, rfl, g5⟩⟩
  · exact ⟨-1, τ, rfl, g1, Or.inr ⟨g2, rfl, g3⟩⟩
