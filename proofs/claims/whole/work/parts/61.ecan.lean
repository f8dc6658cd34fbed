theorem cwN_fx {l : List Nat} {m : List (Nat × Nat)} {σ σ' : Mem} (h : Fx l m σ σ') (hn : nohit BT l m = true) (n : Nat) (but more : Int32) (N : Nat) : cwN σ' n but more N = cwN σ n but more N := by
  have : ∀ i, cw σ' n but i = cw σ n but i := fun i => funext fun w => fb_ct_cong (fun q _ => by rw [wnt_fx h hn, wq_fx h hn])
  unfold cwN
  rw [this]
theorem E_lacks {σ : Mem} {x1 : Int32} (hI : INV σ) : EQ2 (fun σ => kG_lacks σ x1) (fun σ => kM_lacks σ x1) σ := by
  obtain ⟨N, d, P, R, hI⟩ := hI
  have hH := hI.1
  have hB := hI.2.1
  obtain ⟨d1, d2, d3, -⟩ := hI.2.2.1
  have hno : ∀ r : Int32, kG_lacks σ x1 = some (r, σ) → kM_lacks σ x1 = some (r, sI σ 30 0 0 0) → EQ2 (fun σ => kG_lacks σ x1) (fun σ => kM_lacks σ x1) σ := fun r a b => ⟨r, σ, _, a, b, N, d, P, R, hI.thr⟩
  rcases i32 x1 60 with h | h | ⟨n, hn, rfl⟩
  · refine hno (-1) ?_ ?_
    · unfold kG_lacks; rw [isNight_out (Or.inl h)]; rfl
    · unfold kM_lacks; rw [mNight_out (Or.inl h)]; rfl
  · refine hno (-1) ?_ ?_
    · unfold kG_lacks; rw [isNight_out (Or.inr h)]; rfl
    · unfold kM_lacks; rw [mNight_out (Or.inr h)]; rfl
  · have z8 : mI (sI σ 30 0 0 0) 30 0 8 = nI d := d3
    by_cases c : d ≤ n
    · obtain ⟨σ1, s1, s2⟩ := shortOf_ok (but := -1) (more := -1) hH hB hn (Or.inl rfl)
      have hF : Fx [8, 9, 10] [(7, 4), (30, 0)] σ (sI σ1 30 0 0 0) := (s2.wk (l' := [8, 9, 10]) (m' := [(7, 4), (30, 0)]) rfl rfl).sI
      obtain ⟨σ2, m1, m2⟩ := lack_ok (n := n) (but := -1) (more := -1) (HI.fx hF rfl hH) (MB.fx hF rfl rfl hB.mb) (Or.inl rfl)
      rw [hvN_fx hF rfl, cwN_fx hF rfl] at m1
      refine ⟨nI (short (hvN σ n) tk0 (cwN σ n (-1) (-1) N)), σ1, σ2, ?_, ?_, N, d, P, R, (hI.scr (s2.wk (by decide) (by decide))).thr.scr (m2.wk (by decide) (by decide))⟩
      · show kG_lacks σ (nI n) = _
        unfold kG_lacks
        simp only [isNight_in hn, Option.bind_some, show ¬ ((1 : Int32) = 0) by decide, if_false, d2, nle c (by omega), if_true, s1]
      · show kM_lacks σ1 (nI n) = _
        unfold kM_lacks
        have y8 : mI (sI σ1 30 0 0 0) 30 0 8 = nI d := by rw [hF.I 30 0 8]; exact d3
        simp only [mNight_in hn, Option.bind_some, show ¬ ((1 : Int32) = 0) by decide, if_false, y8]
        first
          | (rw [if_neg (nI_nlt c (by omega)), m1]; rfl)
          | (rw [if_pos (nle c (by omega)), m1]; rfl)
    · refine hno (-1) ?_ ?_
      · unfold kG_lacks
        simp only [isNight_in hn, Option.bind_some, show ¬ ((1 : Int32) = 0) by decide, if_false, d2, nge (show n < d by omega) (by omega)]
      · unfold kM_lacks
        simp only [mNight_in hn, Option.bind_some, show ¬ ((1 : Int32) = 0) by decide, if_false, z8]
        first
          | (rw [if_pos (nI_lt (by omega) (by omega))])
          | (rw [if_neg (nge (by omega))])
/-- the over-booking of some night would be passed -/
def bigN (σ : Mem) (N a b o w : Nat) (but : Int32) : Prop := ∃ n, a ≤ n ∧ n < b ∧ o < short (hvN σ n) tk0 (cwN σ n but (nI w) N)
theorem short_le {σ : Mem} {n N : Nat} {but more : Int32} (hN : N ≤ 40) : short (hvN σ n) tk0 (cwN σ n but more N) ≤ 1500 := by
  unfold short tot
  have h := fun w hw => cwN_le (σ := σ) (n := n) (but := but) (more := more) hN w hw
  have h0 := h 0 (by omega)
  have h1 := h 1 (by omega)
  have h2 := h 2 (by omega)
  have h3 := h 3 (by omega)
  have h4 := h 4 (by omega)
  omega
theorem rloop_ok {σ : Mem} {N a b o w : Nat} {but : Int32} (hH : HI σ) (hB : BI σ N) (ho : o ≤ 40) (e6 : mI σ 1 0 6 = nI o) (hw : w < 5) (hab : a < b) (hb : b ≤ 60) :
    ∃ e, loopF FU (kG_refusalOf_s53 (nI w) (nI b) but) (nI a, σ) = some e ∧ ((∃ τ, e = .inl τ ∧ Fx [8, 9, 10] [(7, 4)] σ τ ∧ bigN σ N a b o w but) ∨ (∃ τ, e = .inr τ ∧ Fx [8, 9, 10] [(7, 4)] σ τ ∧ ¬ bigN σ N a b o w but)) := by
  have hN := hB.1
  refine lp_inv (f := kG_refusalOf_s53 (nI w) (nI b) but) (fun i s => ∃ τ, s = (nI (a + i), τ) ∧ Fx [8, 9, 10] [(7, 4)] σ τ ∧ ∀ n, a ≤ n → n < a + i → ¬ o < short (hvN σ n) tk0 (cwN σ n but (nI w) N)) _ (b - a) (by omega) (fun i s hi hs => ?_) (fun s hs => ?_) ⟨σ, rfl, Fx.rf, fun n h1 h2 => by omega⟩
  · obtain ⟨τ, rfl, a1, a2⟩ := hs
    obtain ⟨τ1, s1, s2⟩ := shortOf_ok (but := but) (more := nI w) (HI.fx a1 rfl hH) (BI.fx a1 rfl rfl hB) (show a + i < 60 by omega) (Or.inr ⟨w, hw, rfl⟩)
    rw [hvN_fx a1 rfl, cwN_fx a1 rfl] at s1
    have e6' : mI τ1 1 0 6 = nI o := by rw [s2.I 1 0 6, a1.I 1 0 6]; exact e6
    have hsl := short_le (σ := σ) (n := a + i) (but := but) (more := nI w) hN
    simp only [kG_refusalOf_s53, nge (show a + i < b by omega) (by omega), if_false, s1, Option.bind_some, e6']
    by_cases c : o < short (hvN σ (a + i)) tk0 (cwN σ (a + i) but (nI w) N)
    · rw [if_neg (nge c)]
      exact Or.inr ⟨_, rfl, Or.inl ⟨τ1, rfl, a1.tr s2, a + i, by omega, by omega, c⟩⟩
    · rw [if_pos (nle (by omega)), nI_1]
      refine Or.inl ⟨_, rfl, τ1, rfl, a1.tr s2, fun n h1 h2 => ?_⟩
      by_cases e : n = a + i
      · rw [e]; exact c
      · exact a2 n h1 (by omega)
  · obtain ⟨τ, rfl, a1, a2⟩ := hs
    rw [show a + (b - a) = b by omega] at a2 ⊢
    refine ⟨.inr τ, by simp only [kG_refusalOf_s53, nle (Nat.le_refl b) (by omega), if_true], Or.inr ⟨τ, rfl, a1, ?_⟩⟩
    rintro ⟨n, h1, h2, h3⟩
    exact a2 n h1 h2 h3
theorem wloop_ok {σ : Mem} {N a b o w : Nat} {but : Int32} (hH : HI σ) (hB : MB σ N) (ho : o ≤ 40) (e9 : mI σ 30 0 9 = nI o) (hw : w < 5) (hab : a < b) (hb : b ≤ 60) :
    ∃ e, loopF FU (kM_why_s48 (nI w) (nI b) but) (nI a, σ) = some e ∧ ((∃ τ, e = .inl τ ∧ Fx [51, 54] [(30, 22)] σ τ ∧ bigN σ N a b o w but) ∨ (∃ τ, e = .inr τ ∧ Fx [51, 54] [(30, 22)] σ τ ∧ ¬ bigN σ N a b o w but)) := by
  have hN := hB.1
  refine lp_inv (f := kM_why_s48 (nI w) (nI b) but) (fun i s => ∃ τ, s = (nI (a + i), τ) ∧ Fx [51, 54] [(30, 22)] σ τ ∧ ∀ n, a ≤ n → n < a + i → ¬ o < short (hvN σ n) tk0 (cwN σ n but (nI w) N)) _ (b - a) (by omega) (fun i s hi hs => ?_) (fun s hs => ?_) ⟨σ, rfl, Fx.rf, fun n h1 h2 => by omega⟩
  · obtain ⟨τ, rfl, a1, a2⟩ := hs
    obtain ⟨τ1, s1, s2⟩ := lack_ok (n := a + i) (but := but) (more := nI w) (HI.fx a1 rfl hH) (MB.fx a1 rfl rfl hB) (Or.inr ⟨w, hw, rfl⟩)
    rw [hvN_fx a1 rfl, cwN_fx a1 rfl] at s1
    have e6' : mI τ1 30 0 9 = nI o := by rw [s2.I 30 0 9, a1.I 30 0 9]; exact e9
    have hsl := short_le (σ := σ) (n := a + i) (but := but) (more := nI w) hN
    simp only [kM_why_s48, nge (show a + i < b by omega) (by omega), if_false, s1, Option.bind_some, e6']
    by_cases c : o < short (hvN σ (a + i)) tk0 (cwN σ (a + i) but (nI w) N)
    · rw [if_neg (nge c)]
      exact Or.inr ⟨_, rfl, Or.inl ⟨τ1, rfl, a1.tr s2, a + i, by omega, by omega, c⟩⟩
    · rw [if_pos (nle (by omega)), nI_1]
      refine Or.inl ⟨_, rfl, τ1, rfl, a1.tr s2, fun n h1 h2 => ?_⟩
      by_cases e : n = a + i
      · rw [e]; exact c
      · exact a2 n h1 (by omega)
  · obtain ⟨τ, rfl, a1, a2⟩ := hs
    rw [show a + (b - a) = b by omega] at a2 ⊢
    refine ⟨.inr τ, by simp only [kM_why_s48, nle (Nat.le_refl b) (by omega), if_true], Or.inr ⟨τ, rfl, a1, ?_⟩⟩
    rintro ⟨n, h1, h2, h3⟩
    exact a2 n h1 h2 h3
def mst (w : Nat) : Int32 := if w < 2 then 1 else if w = 4 then 4 else 2
theorem most_ok {σ : Mem} {w : Nat} (hw : w < 5) : kG_mostPeople σ (nI w) = some (mst w, σ) := by
  rcases (show w = 0 ∨ w = 1 ∨ w = 2 ∨ w = 3 ∨ w = 4 by omega) with rfl | rfl | rfl | rfl | rfl <;> rfl
theorem party_ok {σ : Mem} {w : Nat} {x : Int32} (hw : w < 5) : kM_isParty σ (nI w) x = some (if ¬ x < 1 ∧ x ≤ mst w then 1 else 0, σ) := by
  unfold kM_isParty kM_isParty_j25
  by_cases c : x < 1
  · simp [c]
  · rw [if_neg c]
    have key : ∀ m : Int32, (if m < x then some (0, σ) else some (1, σ)) = some (if ¬ x < 1 ∧ x ≤ m then (1 : Int32) else 0, σ) := fun m => by
      by_cases e : m < x
      · rw [if_pos e, if_neg (fun z => absurd z.2 (Int32.not_le.mpr e))]
      · rw [if_neg e, if_pos ⟨c, Int32.not_lt.mp e⟩]
    rcases (show w = 0 ∨ w = 1 ∨ w = 2 ∨ w = 3 ∨ w = 4 by omega) with rfl | rfl | rfl | rfl | rfl
    · exact key 1
    · exact key 1
    · exact key 2
    · exact key 2
    · exact key 4
theorem cst_g {σ σ' : Mem} {R d w : Nat} (h : ∀ t k, t ∈ [57, 58, 59, 60, 61] → mI σ' t 0 k = mI σ t 0 k) (a b : Nat) : cst σ' R d w a b = cst σ R d w a b := by
  unfold cst Sm zz
  congr 1
  congr 1
  · exact fb_sm_cong (fun k _ => by unfold prc; rw [h 57 _ (by simp)])
  · congr 2
    exact fb_si_cong (fun k _ => by unfold rc; rw [h 61 k (by simp), h 58 k (by simp), h 59 k (by simp), h 60 k (by simp)])
theorem mE_g {σ σ' : Mem} {R : Nat} (h : ∀ t k, t ∈ [57, 58, 59, 60, 61] → mI σ' t 0 k = mI σ t 0 k) (n : Nat) : mE σ' R n = mE σ R n := by
  unfold mE
  rw [fb_ct_cong (q := fbd σ n) (fun k _ => by unfold fbd; rw [h 61 k (by simp), h 58 k (by simp), h 59 k (by simp)])]
theorem tbl_g {σ σ' : Mem} {R d w a : Nat} (h : ∀ t k, t ∈ [57, 58, 59, 60, 61] → mI σ' t 0 k = mI σ t 0 k) (j : Nat) : tbl σ' R d w a j = tbl σ R d w a j := by
  induction j with
  | zero => rfl
  | succ j ih =>
    unfold tbl
    rw [ih, mE_g h]
    have : (fun m => cst σ' R d w m (a + (j + 1))) = (fun m => cst σ R d w m (a + (j + 1))) := funext fun m => cst_g h m _
    rw [this]
theorem lst_g {σ σ' : Mem} {R d w a b : Nat} (h : ∀ t k, t ∈ [57, 58, 59, 60, 61] → mI σ' t 0 k = mI σ t 0 k) : lst σ' R d w a b = lst σ R d w a b := by
  unfold lst
  rw [tbl_g h]
/-- the reference sees the same house, promises and prices -/
def SMd (σ τ : Mem) (N R : Nat) : Prop := HI τ ∧ MB τ N ∧ TI τ R ∧ mI τ 30 0 8 = mI σ 30 0 8 ∧ mI τ 30 0 9 = mI σ 30 0 9 ∧ (∀ t k, t ∈ [31, 33, 34, 35, 37, 40, 41, 43, 44, 57, 58, 59, 60, 61] → mI τ t 0 k = mI σ t 0 k) ∧ ∀ k, mL τ 36 0 k = mL σ 36 0 k
theorem SMd.hv {σ τ : Mem} {N R : Nat} (h : SMd σ τ N R) (n : Nat) : hvN τ n = hvN σ n := by
  obtain ⟨-, -, -, -, -, g, g36⟩ := h
  have ho : (fun p => opn τ p n) = (fun p => opn σ p n) := funext fun p => by
    unfold opn isRm
    rw [g 31 p (by simp), g 37 p (by simp), g 35 p (by simp), g36 p]
  unfold hvN
  rw [ho]
  unfold hvW
  simp only [g 31 _ (by simp), g 33 _ (by simp), g 34 _ (by simp)]
theorem SMd.cq {σ τ : Mem} {N R : Nat} (h : SMd σ τ N R) (n : Nat) (but more : Int32) (M : Nat) : cwN τ n but more M = cwN σ n but more M := by
  obtain ⟨-, -, -, -, -, g, -⟩ := h
  have : ∀ i, cw τ n but i = cw σ n but i := fun i => funext fun w => fb_ct_cong (fun q _ => by
    unfold wnt wq
    rw [g 40 q (by simp), g 41 q (by simp), g 43 q (by simp), g 44 q (by simp)])
  unfold cwN
  rw [this]
theorem SMd.ls {σ τ : Mem} {N R d w a b : Nat} (h : SMd σ τ N R) : lst τ R d w a b = lst σ R d w a b := lst_g (fun t k ht => h.2.2.2.2.2.1 t k (by simp at ht ⊢; omega))
theorem SMd.fx {l : List Nat} {m : List (Nat × Nat)} {σ σ' : Mem} {N d P R : Nat} (hI : INV' σ N d P R) (h : Fx l m σ σ') (h1 : nohit HT l m = true) (h2 : nohit [40, 41, 43, 44] l m = true) (h3 : nohit TT2 l m = true) (h4 : (noslot 30 20 l m && (noslot 30 8 l m && (noslot 30 9 l m && noslot 30 32 l m))) = true) : SMd σ σ' N R := by
  simp only [Bool.and_eq_true] at h4
  refine ⟨HI.fx h h1 hI.1, ?_, TI.fx h h3 h4.2.2.2 hI.2.2.2.2.2.2.1, h.sI_ 0 h4.2.1, h.sI_ 0 h4.2.2.1, fun t k ht => ?_, fun k => h.hL h1 36 0 k⟩
  · obtain ⟨a, b, c⟩ := hI.2.1.mb
    exact ⟨a, by rw [h.sI_ 0 h4.1]; exact b, fun q hq => by rw [h.hI h2 41 0 q]; exact c q hq⟩
  · simp only [List.mem_cons, List.not_mem_nil, or_false] at ht
    rcases ht with rfl | rfl | rfl | rfl | rfl | rfl | rfl | rfl | rfl | rfl | rfl | rfl | rfl | rfl
    · exact h.hI h1 31 0 k
    · exact h.hI h1 33 0 k
    · exact h.hI h1 34 0 k
    · exact h.hI h1 35 0 k
    · exact h.hI h1 37 0 k
    · exact h.hI h2 40 0 k
    · exact h.hI h2 41 0 k
    · exact h.hI h2 43 0 k
    · exact h.hI h2 44 0 k
    · exact h.hI h3 57 0 k
    · exact h.hI h3 58 0 k
    · exact h.hI h3 59 0 k
    · exact h.hI h3 60 0 k
    · exact h.hI h3 61 0 k
/-- whether a wish may be promised, by both -/
theorem why_ok {σ : Mem} {N d P R : Nat} {x1 x2 x3 x4 but : Int32} (hI : INV' σ N d P R) :
    ∃ c : Nat, c ≤ 3 ∧ (∃ σ', kG_refusalOf σ x1 x2 x3 x4 but = some (if c = 0 then (if but = -1 ∧ N = 40 then 4 else 0) else nI c, σ') ∧ Fx [8, 9, 10, 18, 19] [(7, 4)] σ σ') ∧
    (c = 0 → ∃ w a b, x1 = nI w ∧ x3 = nI a ∧ x4 = nI b ∧ w < 5 ∧ d ≤ a ∧ a < b ∧ b ≤ 60) ∧
    ∀ τ, SMd σ τ N R → ∃ τ', kM_why τ x1 x2 x3 x4 but = some (nI c, τ') ∧ Fx [51, 54, 63, 64] [(30, 22)] τ τ' ∧ (c = 0 → ∀ w a b, x1 = nI w → x3 = nI a → x4 = nI b → w < 5 → a < b → b ≤ 60 → mL τ' 63 0 b = ec (lst σ R d w a b)) := by
  have hH := hI.1
  have hB := hI.2.1
  have hT := hI.2.2.2.2.2.2.1
  have hN := hB.1
  obtain ⟨d1, d2, d3, o, ho, e6, e9⟩ := hI.2.2.1
  rcases wish_cases (x1 := x1) (x2 := x3) (x3 := x4) d2 d1 with ⟨w, a, b, hw, ha, hab, hb, rfl, rfl, rfl, c1, c2⟩ | ⟨c1, c2⟩
  · by_cases cp : ¬ x2 < 1 ∧ x2 ≤ mst w
    · obtain ⟨σ1, k1, k2⟩ := leastCost_ok hT hw ha hab hb
      have hmod : ∀ τ, SMd σ τ N R → ∃ τ1, kM_ways τ (nI w) (nI a) (nI b) = some ((), τ1) ∧ Fx [63, 64] [] τ τ1 ∧ mL τ1 63 0 b = ec (lst σ R d w a b) := fun τ hF => by
        obtain ⟨τ1, m1, m2, m3, -⟩ := ways_ok (d := d) hF.2.2.1 (by rw [hF.2.2.2.1]; exact d3) hw ha hab hb
        rw [hF.ls] at m3
        exact ⟨τ1, m1, m2, m3⟩
      have hwish : ∀ τ, SMd σ τ N R → kM_isWish τ (nI w) (nI a) (nI b) = some (1, τ) := fun τ hF => c2 τ (by rw [hF.2.2.2.1]; exact d3)
      have hlb : ∀ y, lst σ R d w a b = some y → y.1 < 2 ^ 63 := fun y hy => by
        obtain ⟨x1, x2, x3, x4⟩ := tbl_bd hT hw (b - a) (by omega) b y hy
        omega
      cases q : lst σ R d w a b with
      | none =>
        rw [q, show ec none = -1 from rfl] at k1
        refine ⟨2, by omega, ⟨σ1, ?_, k2.wk rfl rfl⟩, fun z => by omega, fun τ hF => ?_⟩
        · unfold kG_refusalOf
          simp only [c1, Option.bind_some, show ¬ ((1 : Int32) = 0) by decide, if_false, cp.1, most_ok hw, cp.2, if_true, d2, k1, cmp0]
          rfl
        · obtain ⟨τ1, m1, m2, m3⟩ := hmod τ hF
          rw [q, show ec none = -1 from rfl] at m3
          refine ⟨τ1, ?_, m2.wk rfl rfl, fun z => by omega⟩
          unfold kM_why
          simp only [hwish τ hF, Option.bind_some, show ¬ ((1 : Int32) = 0) by decide, if_false, party_ok hw, cp, and_self, not_false_eq_true, if_true, m1, inr_ (show b < 61 by omega), ix_ (show b < 2 ^ 31 by omega), m3, cmp0]
          rfl
      | some y =>
        rw [q, show ec (some y) = lN y.1 from rfl] at k1
        have hne := lN_m1 (hlb y q)
        have hH1 := HI.fx k2 rfl hH
        have hB1 := BI.fx k2 rfl rfl hB
        obtain ⟨e, l1, l2⟩ := rloop_ok (σ := σ1) (N := N) (a := a) (b := b) (o := o) (w := w) (but := but) hH1 hB1 ho (by rw [k2.I 1 0 6]; exact e6) hw hab hb
        have hbg : ∀ {l m} {τ : Mem}, Fx l m σ τ → nohit HT l m = true → nohit BT l m = true → (bigN τ N a b o w but ↔ bigN σ N a b o w but) := fun {l m τ} hF h1 h2 => by
          unfold bigN
          constructor
          · rintro ⟨n, x1, x2, x3⟩
            rw [hvN_fx hF h1, cwN_fx hF h2] at x3
            exact ⟨n, x1, x2, x3⟩
          · rintro ⟨n, x1, x2, x3⟩
            refine ⟨n, x1, x2, ?_⟩
            rw [hvN_fx hF h1, cwN_fx hF h2]
            exact x3
        have hmw : ∀ τ, SMd σ τ N R → ∃ r τ', kM_why τ (nI w) x2 (nI a) (nI b) but = some (r, τ') ∧ ((bigN σ N a b o w but → r = 3) ∧ (¬ bigN σ N a b o w but → r = 0)) ∧ Fx [51, 54, 63, 64] [(30, 22)] τ τ' ∧ mL τ' 63 0 b = ec (lst σ R d w a b) := fun τ hF => by
          obtain ⟨τ1, m1, m2, m3⟩ := hmod τ hF
          obtain ⟨e', n1, n2⟩ := wloop_ok (σ := τ1) (N := N) (a := a) (b := b) (o := o) (w := w) (but := but) (HI.fx m2 rfl hF.1) (MB.fx m2 rfl rfl hF.2.1) ho (by rw [m2.I 30 0 9, hF.2.2.2.2.1]; exact e9) hw hab hb
          have hbt : bigN τ1 N a b o w but ↔ bigN σ N a b o w but := by
            unfold bigN
            constructor
            · rintro ⟨n, x1, x2, x3⟩
              rw [hvN_fx m2 rfl, cwN_fx m2 rfl, hF.hv, hF.cq] at x3
              exact ⟨n, x1, x2, x3⟩
            · rintro ⟨n, x1, x2, x3⟩
              refine ⟨n, x1, x2, ?_⟩
              rw [hvN_fx m2 rfl, cwN_fx m2 rfl, hF.hv, hF.cq]
              exact x3
          rw [hbt] at n2
          have hne2 : ¬ mL τ1 63 0 b = -1 := by rw [m3, q]; exact hne
          have hstart : kM_why τ (nI w) x2 (nI a) (nI b) but = (loopF FU (kM_why_s48 (nI w) (nI b) but) (nI a, τ1)).bind (fun s => Sum.elim (fun s => kM_why_x71 s) (fun s => kM_why_x79 s) s) := by
            unfold kM_why
            simp only [hwish τ hF, Option.bind_some, show ¬ ((1 : Int32) = 0) by decide, if_false, party_ok hw, cp, and_self, not_false_eq_true, if_true, m1, inr_ (show b < 61 by omega), ix_ (show b < 2 ^ 31 by omega), cmp0, hne2]
          rw [hstart, n1]
          rcases n2 with ⟨τ2, rfl, x1, x2⟩ | ⟨τ2, rfl, x1, x2⟩
          · exact ⟨3, τ2, rfl, ⟨fun _ => rfl, fun z => absurd x2 z⟩, (m2.wk rfl rfl).tr (x1.wk rfl rfl), by rw [x1.L 63 0 b]; exact m3⟩
          · exact ⟨0, τ2, rfl, ⟨fun z => absurd z x2, fun _ => rfl⟩, (m2.wk rfl rfl).tr (x1.wk rfl rfl), by rw [x1.L 63 0 b]; exact m3⟩
        have hst : kG_refusalOf σ (nI w) x2 (nI a) (nI b) but = (loopF FU (kG_refusalOf_s53 (nI w) (nI b) but) (nI a, σ1)).bind (fun s => Sum.elim (fun s => kG_refusalOf_x76 s) (fun s => kG_refusalOf_x84 s but) s) := by
          unfold kG_refusalOf
          simp only [c1, Option.bind_some, show ¬ ((1 : Int32) = 0) by decide, if_false, cp.1, most_ok hw, cp.2, if_true, d2, k1, cmp0, hne]
        rw [hbg k2 rfl rfl] at l2
        rcases l2 with ⟨τ, rfl, x1, x2⟩ | ⟨τ, rfl, x1, x2⟩
        · refine ⟨3, by omega, ⟨τ, by rw [hst, l1]; rfl, (k2.wk rfl rfl).tr (x1.wk rfl rfl)⟩, fun z => by omega, fun τ' hF => ?_⟩
          obtain ⟨r, τ2, y1, y0, y2, y3⟩ := hmw τ' hF
          rw [y0.1 x2] at y1
          exact ⟨τ2, y1, y2, fun z => by omega⟩
        · refine ⟨0, by omega, ⟨τ, ?_, (k2.wk rfl rfl).tr (x1.wk rfl rfl)⟩, fun _ => ⟨w, a, b, rfl, rfl, rfl, hw, ha, hab, hb⟩, fun τ' hF => ?_⟩
          · rw [hst, l1]
            have hFt : Fx [8, 9, 10, 18, 19] [(7, 4)] σ τ := (k2.wk rfl rfl).tr (x1.wk rfl rfl)
            have h5 : mI τ 5 0 1 = nI N := by rw [hFt.I 5 0 1]; exact hB.2.1
            show kG_refusalOf_x84 τ but = _
            unfold kG_refusalOf_x84 kB_isFull
            rw [h5, if_pos rfl]
            by_cases b1 : but = -1
            · rw [if_pos b1]
              by_cases n40 : N = 40
              · rw [if_neg (show ¬ nI N < 40 by rw [n40]; decide), if_pos ⟨b1, n40⟩]; rfl
              · rw [if_pos (show nI N < 40 from nI_lt (b := 40) (by omega) (by decide)), if_neg (fun z => n40 z.2)]; rfl
            · rw [if_neg b1, if_neg (fun z => b1 z.1)]
          · obtain ⟨r, τ2, y1, y0, y2, y3⟩ := hmw τ' hF
            rw [y0.2 x2] at y1
            refine ⟨τ2, y1, y2, fun _ w' a' b' z1 z2 z3 h5 hab' hb' => ?_⟩
            have e1 := (nI_eq (by omega) (by omega)).mp z1
            have e2 := (nI_eq (by omega) (by omega)).mp z2
            have e3 := (nI_eq (by omega) (by omega)).mp z3
            subst e1 e2 e3
            exact y3
    · refine ⟨1, by omega, ⟨σ, ?_, Fx.rf⟩, fun z => by omega, fun τ hF => ⟨τ, ?_, Fx.rf, fun z => by omega⟩⟩
      · unfold kG_refusalOf
        simp only [c1, Option.bind_some, show ¬ ((1 : Int32) = 0) by decide, if_false, most_ok hw]
        by_cases e1 : x2 < 1
        · rw [if_pos e1]; rfl
        · rw [if_neg e1, if_neg (fun z => cp ⟨e1, z⟩)]; rfl
      · unfold kM_why
        simp only [c2 τ (by rw [hF.2.2.2.1]; exact d3), Option.bind_some, show ¬ ((1 : Int32) = 0) by decide, if_false, party_ok hw, cp, if_true]
        rfl
  · refine ⟨1, by omega, ⟨σ, ?_, Fx.rf⟩, fun z => by omega, fun τ hF => ⟨τ, ?_, Fx.rf, fun z => by omega⟩⟩
    · unfold kG_refusalOf
      simp only [c1, Option.bind_some, if_true]
      rfl
    · unfold kM_why
      simp only [c2 τ (by rw [hF.2.2.2.1]; exact d3), Option.bind_some, if_true]
      rfl
theorem E_can {σ : Mem} {x1 x2 x3 x4 : Int32} (hI : INV σ) : EQ2 (fun σ => kG_can σ x1 x2 x3 x4) (fun σ => kM_can σ x1 x2 x3 x4) σ := by
  obtain ⟨N, d, P, R, hI⟩ := hI
  obtain ⟨c, hc, ⟨σ1, k1, k2⟩, -, hm⟩ := why_ok (x1 := x1) (x2 := x2) (x3 := x3) (x4 := x4) (but := -1) hI
  have hF : Fx [8, 9, 10, 18, 19] [(7, 4), (30, 0)] σ (sI σ1 30 0 0 0) := (k2.wk (l' := [8, 9, 10, 18, 19]) (m' := [(7, 4), (30, 0)]) rfl rfl).sI
  obtain ⟨σ2, m1, m2, -⟩ := hm _ (SMd.fx hI hF rfl rfl rfl rfl)
  have h20 : mI σ2 30 0 20 = nI N := by rw [m2.I 30 0 20, hF.I 30 0 20]; exact hI.2.1.2.2.1
  have hN := hI.2.1.1
  refine ⟨if c = 0 then (if (-1 : Int32) = -1 ∧ N = 40 then 4 else 0) else nI c, σ1, σ2, ?_, ?_, N, d, P, R, (hI.scr (k2.wk (by decide) (by decide))).thr.scr (m2.wk (by decide) (by decide))⟩
  · show kG_can σ x1 x2 x3 x4 = _
    unfold kG_can
    rw [k1]
    rfl
  · show kM_can σ1 x1 x2 x3 x4 = _
    unfold kM_can
    rw [m1]
    simp only [Option.bind_some, h20, true_and]
    by_cases c0 : c = 0
    · rw [c0, if_pos (show nI 0 ≤ 0 by decide), if_pos rfl]
      by_cases n40 : N = 40
      · rw [n40, if_pos (show nI 40 = 40 from rfl), if_pos rfl]
      · rw [if_neg (show ¬ nI N = (40 : Int32) from fun z => n40 ((nI_eq (b := 40) (by omega) (by decide)).mp z)), if_neg n40]
    · rw [if_neg (nI_nle (by omega) (by omega)), if_neg c0]
