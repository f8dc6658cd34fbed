section LINK
variable {l : Launch} {D : va_G} {dA : Nat → ClassId} {H0 : Heap} {h0 : Hx} {Po : Option AV → Hp → Prop}
theorem qM_is {σ : Mem} {x1 : Int32} {res : Int32 × Mem} (hk : kM_is σ x1 = some res) (hP : Po (some (vI res.1)) (hp res.2)) : J l D dA H0 YM_is h0 Po 0 0 (hp σ) 0 [some (vR (some (30, 0))), some (vI x1)] [] := by
  unfold kM_is at hk
  refine j_iload_n (pc' := 1) rfl rfl dX9_is_0 ?_
  refine j_if_lt (pc' := 4) (tg := 16) rfl rfl dX9_is_1 (fun c2 => ?_) (fun c2 => ?_)
  · have hk := (if_pos c2).symm.trans hk
    refine j_iconst (pc' := 17) (v := 0) rfl rfl dX9_is_16 ?_
    obtain rfl := Option.some.inj hk
    exact j_zret rfl rfl ⟨rfl, rfl⟩ dX9_is_17 hP
  · have hk := (if_neg c2).symm.trans hk
    refine j_iload_n (pc' := 5) rfl rfl dX9_is_4 ?_
    refine j_aload_n (pc' := 6) rfl rfl dX9_is_5 ?_
    refine j_getf (pc' := 9) fg_RX9_117 (hp_e rfl) rfl rfl dX9_is_6 ?_
    refine j_ic_ge (pc' := 12) (tg := 16) rfl rfl dX9_is_9 (fun c1 => ?_) (fun c1 => ?_)
    · have hk := (if_pos c1).symm.trans hk
      refine j_iconst (pc' := 17) (v := 0) rfl rfl dX9_is_16 ?_
      obtain rfl := Option.some.inj hk
      exact j_zret rfl rfl ⟨rfl, rfl⟩ dX9_is_17 hP
    · have hk := (if_neg c1).symm.trans hk
      refine j_iconst (pc' := 13) (v := 1) rfl rfl dX9_is_12 ?_
      refine j_goto (tg := 17) rfl dX9_is_13 ?_
      obtain rfl := Option.some.inj hk
      exact j_zret rfl rfl ⟨rfl, rfl⟩ dX9_is_17 hP
theorem LM_is {σ σ' : Mem} {x1 : Int32} {r : Int32} (hk : kM_is σ x1 = some (r, σ')) : M l D dA H0 yX9_is YM_is [vR (some (30, 0)), vI x1] (hp σ) (fun x h' => x = some (vI r) ∧ h' = hp σ') :=
  m_of (j := 0) (by decide) rfl (fun hh => by cases hh) ⟨fun _ _ => trivial, rfl⟩ (le_b rfl) (qM_is hk ⟨rfl, rfl⟩)
theorem qM_stands {σ : Mem} {x1 : Int32} {res : Int32 × Mem} (hk : kM_stands σ x1 = some res) (hP : Po (some (vI res.1)) (hp res.2)) : J l D dA H0 YM_stands h0 Po 0 0 (hp σ) 0 [some (vR (some (30, 0))), some (vI x1)] [] := by
  unfold kM_stands at hk
  refine j_aload_n (pc' := 1) rfl rfl dX9_stands_0 ?_
  refine j_getf (pc' := 4) fg_RX9_37 (hp_e rfl) rfl rfl dX9_stands_1 ?_
  refine j_iload_n (pc' := 5) rfl rfl dX9_stands_4 ?_
  obtain ⟨g1, hk⟩ := of_ite hk
  refine j_iald (pc' := 6) (hp_e rfl) (inR_in g1) rfl dX9_stands_5 ?_
  refine j_iconst (pc' := 7) (v := 2) rfl rfl dX9_stands_6 ?_
  refine j_ic_gt (pc' := 10) (tg := 14) rfl rfl dX9_stands_7 (fun c2 => ?_) (fun c2 => ?_)
  · have hk := (if_pos c2).symm.trans hk
    refine j_iconst (pc' := 15) (v := 0) rfl rfl dX9_stands_14 ?_
    obtain rfl := Option.some.inj hk
    exact j_zret rfl rfl ⟨rfl, rfl⟩ dX9_stands_15 hP
  · have hk := (if_neg c2).symm.trans hk
    refine j_iconst (pc' := 11) (v := 1) rfl rfl dX9_stands_10 ?_
    refine j_goto (tg := 15) rfl dX9_stands_11 ?_
    obtain rfl := Option.some.inj hk
    exact j_zret rfl rfl ⟨rfl, rfl⟩ dX9_stands_15 hP
theorem LM_stands {σ σ' : Mem} {x1 : Int32} {r : Int32} (hk : kM_stands σ x1 = some (r, σ')) : M l D dA H0 yX9_stands YM_stands [vR (some (30, 0)), vI x1] (hp σ) (fun x h' => x = some (vI r) ∧ h' = hp σ') :=
  m_of (j := 0) (by decide) rfl (fun hh => by cases hh) ⟨fun _ _ => trivial, rfl⟩ (le_b rfl) (qM_stands hk ⟨rfl, rfl⟩)
theorem qM_wants {σ : Mem} {x1 : Int32} {x2 : Int32} {res : Int32 × Mem} (hk : kM_wants σ x1 x2 = some res) (hP : Po (some (vI res.1)) (hp res.2)) : J l D dA H0 YM_wants h0 Po 0 0 (hp σ) 0 [some (vR (some (30, 0))), some (vI x1), some (vI x2)] [] := by
  unfold kM_wants at hk
  refine j_aload_n (pc' := 1) rfl rfl dX9_wants_0 ?_
  refine j_iload_n (pc' := 2) rfl rfl dX9_wants_1 ?_
  obtain ⟨⟨r1, σ2⟩, hx, hk⟩ := of_bind hk
  refine j_cv1 (pc' := 5) (LM_stands hx) cv_RX9_120 ⟨le_b rfl, le_b rfl⟩ (hp_e rfl) rfl rfl (le_b rfl) ⟨rfl, rfl⟩ ⟨le_b rfl, le_b rfl⟩ rfl rfl dX9_wants_2 ?_
  refine j_if_eq (pc' := 8) (tg := 32) rfl rfl dX9_wants_5 (fun c7 => ?_) (fun c7 => ?_)
  · have hk := (if_pos c7).symm.trans hk
    refine j_iconst (pc' := 33) (v := 0) rfl rfl dX9_wants_32 ?_
    obtain rfl := Option.some.inj hk
    exact j_zret rfl rfl ⟨rfl, rfl⟩ dX9_wants_33 hP
  · have hk := (if_neg c7).symm.trans hk
    refine j_aload_n (pc' := 9) rfl rfl dX9_wants_8 ?_
    refine j_getf (pc' := 12) fg_RX9_46 (hp_e rfl) rfl rfl dX9_wants_9 ?_
    refine j_iload_n (pc' := 13) rfl rfl dX9_wants_12 ?_
    obtain ⟨g3, hk⟩ := of_ite hk
    refine j_iald (pc' := 14) (hp_e rfl) (inR_in g3) rfl dX9_wants_13 ?_
    refine j_iload_n (pc' := 15) rfl rfl dX9_wants_14 ?_
    refine j_ic_gt (pc' := 18) (tg := 32) rfl rfl dX9_wants_15 (fun c6 => ?_) (fun c6 => ?_)
    · have hk := (if_pos c6).symm.trans hk
      refine j_iconst (pc' := 33) (v := 0) rfl rfl dX9_wants_32 ?_
      obtain rfl := Option.some.inj hk
      exact j_zret rfl rfl ⟨rfl, rfl⟩ dX9_wants_33 hP
    · have hk := (if_neg c6).symm.trans hk
      refine j_iload_n (pc' := 19) rfl rfl dX9_wants_18 ?_
      refine j_aload_n (pc' := 20) rfl rfl dX9_wants_19 ?_
      refine j_getf (pc' := 23) fg_RX9_49 (hp_e rfl) rfl rfl dX9_wants_20 ?_
      refine j_iload_n (pc' := 24) rfl rfl dX9_wants_23 ?_
      obtain ⟨g4, hk⟩ := of_ite hk
      refine j_iald (pc' := 25) (hp_e rfl) (inR_in g4) rfl dX9_wants_24 ?_
      refine j_ic_ge (pc' := 28) (tg := 32) rfl rfl dX9_wants_25 (fun c5 => ?_) (fun c5 => ?_)
      · have hk := (if_pos c5).symm.trans hk
        refine j_iconst (pc' := 33) (v := 0) rfl rfl dX9_wants_32 ?_
        obtain rfl := Option.some.inj hk
        exact j_zret rfl rfl ⟨rfl, rfl⟩ dX9_wants_33 hP
      · have hk := (if_neg c5).symm.trans hk
        refine j_iconst (pc' := 29) (v := 1) rfl rfl dX9_wants_28 ?_
        refine j_goto (tg := 33) rfl dX9_wants_29 ?_
        obtain rfl := Option.some.inj hk
        exact j_zret rfl rfl ⟨rfl, rfl⟩ dX9_wants_33 hP
theorem LM_wants {σ σ' : Mem} {x1 : Int32} {x2 : Int32} {r : Int32} (hk : kM_wants σ x1 x2 = some (r, σ')) : M l D dA H0 yX9_wants YM_wants [vR (some (30, 0)), vI x1, vI x2] (hp σ) (fun x h' => x = some (vI r) ∧ h' = hp σ') :=
  m_of (j := 0) (by decide) rfl (fun hh => by cases hh) ⟨fun _ _ => trivial, rfl⟩ (le_b rfl) (qM_wants hk ⟨rfl, rfl⟩)
theorem qM_fresh_s7 {σ : Mem} {x2 : Int32} {o1 : Option AV} {out : (Int32 × Mem) ⊕ (Mem)} (hk : kM_fresh_s7 (x2, σ) = some out) (hc : ∀ (z2 : Int32) (ς : Mem), out = .inl (z2, ς) → ∀ (o1 : Option AV), J l D dA H0 YM_fresh h0 Po 0 0 (hp ς) 7 [some (vR (some (30, 0))), o1, some (vI z2)] []) (hx0 : ∀ (ς : Mem), out = .inr ς → ∀ (o0 o1 o2 : Option AV), J l D dA H0 YM_fresh h0 Po 0 0 (hp ς) 26 [o0, o1, o2] []) : J l D dA H0 YM_fresh h0 Po 0 0 (hp σ) 7 [some (vR (some (30, 0))), o1, some (vI x2)] [] := by
  unfold kM_fresh_s7 at hk
  refine j_iload_n (pc' := 8) rfl rfl dX9_fresh_7 ?_
  refine j_bipush (pc' := 10) (v := 16) rfl rfl dX9_fresh_8 ?_
  refine j_ic_ge (pc' := 13) (tg := 26) rfl rfl dX9_fresh_10 (fun c2 => ?_) (fun c2 => ?_)
  · have hk := (if_pos c2).symm.trans hk
    obtain rfl := Option.some.inj hk
    exact hx0 _ rfl _ _ _
  · have hk := (if_neg c2).symm.trans hk
    refine j_aload_n (pc' := 14) rfl rfl dX9_fresh_13 ?_
    refine j_getf (pc' := 17) fg_RX9_67 (hp_e rfl) rfl rfl dX9_fresh_14 ?_
    refine j_iload_n (pc' := 18) rfl rfl dX9_fresh_17 ?_
    refine j_iconst (pc' := 19) (v := 0) rfl rfl dX9_fresh_18 ?_
    obtain ⟨g1, hk⟩ := of_ite hk
    refine j_si (pc' := 20) (fun _ _ _ => rfl) (inR_in g1) rfl dX9_fresh_19 ?_
    refine j_iinc (pc' := 23) (v := x2 + 1) rfl rfl (lt_b rfl) rfl rfl dX9_fresh_20 ?_
    refine j_goto (tg := 7) rfl dX9_fresh_23 ?_
    obtain rfl := Option.some.inj hk
    exact hc _ _ rfl _
theorem lM_fresh_s7 : ∀ (n : Nat) (x2 : Int32) (σ : Mem) (e : (Mem)), loopF n (kM_fresh_s7) (x2, σ) = some e → (∀ (ς : Mem), e = ς → ∀ (o0 o1 o2 : Option AV), J l D dA H0 YM_fresh h0 Po 0 0 (hp ς) 26 [o0, o1, o2] []) → ∀ (o1 : Option AV), J l D dA H0 YM_fresh h0 Po 0 0 (hp σ) 7 [some (vR (some (30, 0))), o1, some (vI x2)] []
  | 0, x2, σ, e, he => by cases he
  | n + 1, x2, σ, e, he => by
    intro hx0 o1
    rcases loopF_succ he with ⟨s', h1, h2⟩ | h1
    · refine qM_fresh_s7 h1 ?_ ?_
      · intro z2 ς ee
        cases ee
        exact lM_fresh_s7 n z2 ς e h2 hx0
      · intro ς ee
        cases ee
    · refine qM_fresh_s7 h1 ?_ ?_
      · intro z2 ς ee
        cases ee
      · intro ς ee
        exact hx0 ς (Sum.inr.inj ee)
theorem qM_fresh_x26 {σ : Mem} {o0 : Option AV} {o1 : Option AV} {o2 : Option AV} {res : Unit × Mem} (hk : kM_fresh_x26 σ = some res) (hP : Po none (hp res.2)) : J l D dA H0 YM_fresh h0 Po 0 0 (hp σ) 26 [o0, o1, o2] [] := by
  unfold kM_fresh_x26 at hk
  obtain rfl := Option.some.inj hk
  exact j_ret rfl ⟨rfl, rfl⟩ dX9_fresh_26 hP
theorem qM_fresh {σ : Mem} {x1 : Int32} {o2 : Option AV} {res : Unit × Mem} (hk : kM_fresh σ x1 = some res) (hP : Po none (hp res.2)) : J l D dA H0 YM_fresh h0 Po 0 0 (hp σ) 0 [some (vR (some (30, 0))), some (vI x1), o2] [] := by
  unfold kM_fresh at hk
  refine j_aload_n (pc' := 1) rfl rfl dX9_fresh_0 ?_
  refine j_iload_n (pc' := 2) rfl rfl dX9_fresh_1 ?_
  refine j_pi (pc' := 5) (ty := .int) fg_RX9_123 ttX9 rfl rfl ⟨rfl, rfl⟩ rfl (lt_b rfl) rfl rfl dX9_fresh_2 ?_
  refine j_iconst (pc' := 6) (v := 0) rfl rfl dX9_fresh_5 ?_
  refine j_istore_n (pc' := 7) (lt_b rfl) rfl rfl dX9_fresh_6 ?_
  obtain ⟨e, he, hk⟩ := of_bind hk
  refine lM_fresh_s7 FU _ _ e he ?_ _
  · intro ς ee _ _ _
    subst ee
    exact qM_fresh_x26 hk hP
theorem LM_fresh {σ σ' : Mem} {x1 : Int32} {r : Unit} (hk : kM_fresh σ x1 = some (r, σ')) : M l D dA H0 yX9_fresh YM_fresh [vR (some (30, 0)), vI x1] (hp σ) (fun x h' => x = none ∧ h' = hp σ') :=
  m_of (j := 1) (by decide) rfl (fun hh => by cases hh) ⟨fun _ _ => trivial, rfl⟩ (le_b rfl) (qM_fresh hk ⟨rfl, rfl⟩)
theorem qM_isFree {σ : Mem} {x1 : Int32} {res : Int32 × Mem} (hk : kM_isFree σ x1 = some res) (hP : Po (some (vI res.1)) (hp res.2)) : J l D dA H0 YM_isFree h0 Po 0 0 (hp σ) 0 [some (vR (some (30, 0))), some (vI x1)] [] := by
  unfold kM_isFree at hk
  refine j_aload_n (pc' := 1) rfl rfl dX9_isFree_0 ?_
  refine j_iload_n (pc' := 2) rfl rfl dX9_isFree_1 ?_
  refine j_aload_n (pc' := 3) rfl rfl dX9_isFree_2 ?_
  refine j_getf (pc' := 6) fg_RX9_123 (hp_e rfl) rfl rfl dX9_isFree_3 ?_
  obtain ⟨⟨r1, σ2⟩, hx, hk⟩ := of_bind hk
  refine j_cv1 (pc' := 9) (LM_isOpen hx) cv_RX9_126 ⟨le_b rfl, le_b rfl⟩ (hp_e rfl) rfl rfl (le_b rfl) ⟨rfl, rfl⟩ ⟨le_b rfl, le_b rfl⟩ rfl rfl dX9_isFree_6 ?_
  refine j_if_eq (pc' := 12) (tg := 25) rfl rfl dX9_isFree_9 (fun c5 => ?_) (fun c5 => ?_)
  · have hk := (if_pos c5).symm.trans hk
    refine j_iconst (pc' := 26) (v := 0) rfl rfl dX9_isFree_25 ?_
    obtain rfl := Option.some.inj hk
    exact j_zret rfl rfl ⟨rfl, rfl⟩ dX9_isFree_26 hP
  · have hk := (if_neg c5).symm.trans hk
    refine j_aload_n (pc' := 13) rfl rfl dX9_isFree_12 ?_
    refine j_getf (pc' := 16) fg_RX9_67 (hp_e rfl) rfl rfl dX9_isFree_13 ?_
    refine j_iload_n (pc' := 17) rfl rfl dX9_isFree_16 ?_
    obtain ⟨g3, hk⟩ := of_ite hk
    refine j_iald (pc' := 18) (hp_e rfl) (inR_in g3) rfl dX9_isFree_17 ?_
    refine j_if_ne (pc' := 21) (tg := 25) rfl rfl dX9_isFree_18 (fun c4 => ?_) (fun c4 => ?_)
    · have hk := (if_neg c4).symm.trans hk
      refine j_iconst (pc' := 26) (v := 0) rfl rfl dX9_isFree_25 ?_
      obtain rfl := Option.some.inj hk
      exact j_zret rfl rfl ⟨rfl, rfl⟩ dX9_isFree_26 hP
    · have hk := (if_pos c4).symm.trans hk
      refine j_iconst (pc' := 22) (v := 1) rfl rfl dX9_isFree_21 ?_
      refine j_goto (tg := 26) rfl dX9_isFree_22 ?_
      obtain rfl := Option.some.inj hk
      exact j_zret rfl rfl ⟨rfl, rfl⟩ dX9_isFree_26 hP
theorem LM_isFree {σ σ' : Mem} {x1 : Int32} {r : Int32} (hk : kM_isFree σ x1 = some (r, σ')) : M l D dA H0 yX9_isFree YM_isFree [vR (some (30, 0)), vI x1] (hp σ) (fun x h' => x = some (vI r) ∧ h' = hp σ') :=
  m_of (j := 0) (by decide) rfl (fun hh => by cases hh) ⟨fun _ _ => trivial, rfl⟩ (le_b rfl) (qM_isFree hk ⟨rfl, rfl⟩)
theorem qM_poured_j147 {σ : Mem} {x1 : Int32} {x2 : Int32} {x3 : Int32} {x4 : Int32} {x5 : Int32} {x6 : Int32} {x7 : Int32} {o8 : Option AV} {o9 : Option AV} {o10 : Option AV} {o11 : Option AV} {out : Int32 × Int32 × Int32 × Int32 × Int32 × Int32 × Mem ⊕ (Int32 × Int32 × Int32 × Int32 × Int32 × Mem)} (hk : kM_poured_j147 σ x1 x2 x3 x4 x5 x6 x7 = some out) (hc : ∀ (z2 : Int32) (z3 : Int32) (z4 : Int32) (z5 : Int32) (z6 : Int32) (z7 : Int32) (ς : Mem), out = .inl (z2, z3, z4, z5, z6, z7, ς) → ∀ (o8 o9 o10 o11 : Option AV), J l D dA H0 YM_poured h0 Po 0 0 (hp ς) 16 [some (vR (some (30, 0))), some (vI x1), some (vI z2), some (vI z3), some (vI z4), some (vI z5), some (vI z6), some (vI z7), o8, o9, o10, o11] []) (hx0 : ∀ (z2 : Int32) (z3 : Int32) (z4 : Int32) (z5 : Int32) (z6 : Int32) (ς : Mem), out = .inr (z2, z3, z4, z5, z6, ς) → ∀ (o7 o8 o9 o10 o11 : Option AV), J l D dA H0 YM_poured h0 Po 0 0 (hp ς) 193 [some (vR (some (30, 0))), some (vI x1), some (vI z2), some (vI z3), some (vI z4), some (vI z5), some (vI z6), o7, o8, o9, o10, o11] []) : J l D dA H0 YM_poured h0 Po 0 0 (hp σ) 147 [some (vR (some (30, 0))), some (vI x1), some (vI x2), some (vI x3), some (vI x4), some (vI x5), some (vI x6), some (vI x7), o8, o9, o10, o11] [] := by
  unfold kM_poured_j147 at hk
  refine j_aload_n (pc' := 148) rfl rfl dX9_poured_147 ?_
  refine j_getf (pc' := 151) fg_RX9_13 (hp_e rfl) rfl rfl dX9_poured_148 ?_
  refine j_iload (pc' := 153) rfl rfl dX9_poured_151 ?_
  obtain ⟨g9, hk⟩ := of_ite hk
  refine j_iald (pc' := 154) (hp_e rfl) (inR_in g9) rfl dX9_poured_153 ?_
  refine j_iconst (pc' := 155) (v := 1) rfl rfl dX9_poured_154 ?_
  refine j_ic_ne (pc' := 158) (tg := 187) rfl rfl dX9_poured_155 (fun c16 => ?_) (fun c16 => ?_)
  · have hk := (if_neg c16).symm.trans hk
    refine j_iinc (pc' := 190) (v := x7 + 1) rfl rfl (lt_b rfl) rfl rfl dX9_poured_187 ?_
    refine j_goto (tg := 16) rfl dX9_poured_190 ?_
    obtain rfl := Option.some.inj hk
    exact hc _ _ _ _ _ _ _ rfl _ _ _ _
  · have hk := (if_pos c16).symm.trans hk
    refine j_aload_n (pc' := 159) rfl rfl dX9_poured_158 ?_
    refine j_getf (pc' := 162) fg_RX9_23 (hp_e rfl) rfl rfl dX9_poured_159 ?_
    refine j_iload (pc' := 164) rfl rfl dX9_poured_162 ?_
    obtain ⟨g10, hk⟩ := of_ite hk
    refine j_iald (pc' := 165) (hp_e rfl) (inR_in g10) rfl dX9_poured_164 ?_
    refine j_iload (pc' := 167) rfl rfl dX9_poured_165 ?_
    refine j_ic_le (pc' := 170) (tg := 187) rfl rfl dX9_poured_167 (fun c15 => ?_) (fun c15 => ?_)
    · have hk := (if_pos c15).symm.trans hk
      refine j_iinc (pc' := 190) (v := x7 + 1) rfl rfl (lt_b rfl) rfl rfl dX9_poured_187 ?_
      refine j_goto (tg := 16) rfl dX9_poured_190 ?_
      obtain rfl := Option.some.inj hk
      exact hc _ _ _ _ _ _ _ rfl _ _ _ _
    · have hk := (if_neg c15).symm.trans hk
      refine j_aload_n (pc' := 171) rfl rfl dX9_poured_170 ?_
      refine j_aload_n (pc' := 172) rfl rfl dX9_poured_171 ?_
      refine j_getf (pc' := 175) fg_RX9_23 (hp_e rfl) rfl rfl dX9_poured_172 ?_
      refine j_iload (pc' := 177) rfl rfl dX9_poured_175 ?_
      obtain ⟨g11, hk⟩ := of_ite hk
      refine j_iald (pc' := 178) (hp_e rfl) (inR_in g11) rfl dX9_poured_177 ?_
      obtain ⟨⟨r12, σ13⟩, hx, hk⟩ := of_bind hk
      refine j_cv1 (pc' := 181) (LM_isFree hx) cv_RX9_129 ⟨le_b rfl, le_b rfl⟩ (hp_e rfl) rfl rfl (le_b rfl) ⟨rfl, rfl⟩ ⟨le_b rfl, le_b rfl⟩ rfl rfl dX9_poured_178 ?_
      refine j_if_eq (pc' := 184) (tg := 187) rfl rfl dX9_poured_181 (fun c14 => ?_) (fun c14 => ?_)
      · have hk := (if_pos c14).symm.trans hk
        refine j_iinc (pc' := 190) (v := x7 + 1) rfl rfl (lt_b rfl) rfl rfl dX9_poured_187 ?_
        refine j_goto (tg := 16) rfl dX9_poured_190 ?_
        obtain rfl := Option.some.inj hk
        exact hc _ _ _ _ _ _ _ rfl _ _ _ _
      · have hk := (if_neg c14).symm.trans hk
        refine j_iinc (pc' := 187) (v := x6 + 1) rfl rfl (lt_b rfl) rfl rfl dX9_poured_184 ?_
        refine j_iinc (pc' := 190) (v := x7 + 1) rfl rfl (lt_b rfl) rfl rfl dX9_poured_187 ?_
        refine j_goto (tg := 16) rfl dX9_poured_190 ?_
        obtain rfl := Option.some.inj hk
        exact hc _ _ _ _ _ _ _ rfl _ _ _ _
theorem qM_poured_s62 {σ : Mem} {x1 : Int32} {x3 : Int32} {x4 : Int32} {x5 : Int32} {x6 : Int32} {x7 : Int32} {x2 : Int32} {x8 : Int32} {o9 : Option AV} {o10 : Option AV} {o11 : Option AV} {out : (Int32 × Int32 × Mem) ⊕ (Int32 × Mem)} (hk : kM_poured_s62 x1 x3 x4 x5 x6 x7 (x2, x8, σ) = some out) (hc : ∀ (z2 : Int32) (z8 : Int32) (ς : Mem), out = .inl (z2, z8, ς) → ∀ (o9 o10 o11 : Option AV), J l D dA H0 YM_poured h0 Po 0 0 (hp ς) 62 [some (vR (some (30, 0))), some (vI x1), some (vI z2), some (vI x3), some (vI x4), some (vI x5), some (vI x6), some (vI x7), some (vI z8), o9, o10, o11] []) (hx0 : ∀ (z2 : Int32) (ς : Mem), out = .inr (z2, ς) → ∀ (o8 o9 o10 o11 : Option AV), J l D dA H0 YM_poured h0 Po 0 0 (hp ς) 98 [some (vR (some (30, 0))), some (vI x1), some (vI z2), some (vI x3), some (vI x4), some (vI x5), some (vI x6), some (vI x7), o8, o9, o10, o11] []) : J l D dA H0 YM_poured h0 Po 0 0 (hp σ) 62 [some (vR (some (30, 0))), some (vI x1), some (vI x2), some (vI x3), some (vI x4), some (vI x5), some (vI x6), some (vI x7), some (vI x8), o9, o10, o11] [] := by
  unfold kM_poured_s62 at hk
  refine j_iload (pc' := 64) rfl rfl dX9_poured_62 ?_
  refine j_aload_n (pc' := 65) rfl rfl dX9_poured_64 ?_
  refine j_getf (pc' := 68) fg_RX9_20 (hp_e rfl) rfl rfl dX9_poured_65 ?_
  refine j_iload (pc' := 70) rfl rfl dX9_poured_68 ?_
  obtain ⟨g20, hk⟩ := of_ite hk
  refine j_iald (pc' := 71) (hp_e rfl) (inR_in g20) rfl dX9_poured_70 ?_
  refine j_ic_ge (pc' := 74) (tg := 98) rfl rfl dX9_poured_71 (fun c23 => ?_) (fun c23 => ?_)
  · have hk := (if_pos c23).symm.trans hk
    obtain rfl := Option.some.inj hk
    exact hx0 _ _ rfl _ _ _ _
  · have hk := (if_neg c23).symm.trans hk
    refine j_aload_n (pc' := 75) rfl rfl dX9_poured_74 ?_
    refine j_getf (pc' := 78) fg_RX9_67 (hp_e rfl) rfl rfl dX9_poured_75 ?_
    refine j_iload (pc' := 80) rfl rfl dX9_poured_78 ?_
    obtain ⟨g21, hk⟩ := of_ite hk
    refine j_iald (pc' := 81) (hp_e rfl) (inR_in g21) rfl dX9_poured_80 ?_
    refine j_iload (pc' := 83) rfl rfl dX9_poured_81 ?_
    refine j_ishr (pc' := 84) rfl dX9_poured_83 ?_
    refine j_iconst (pc' := 85) (v := 1) rfl rfl dX9_poured_84 ?_
    refine j_iand (pc' := 86) rfl dX9_poured_85 ?_
    refine j_if_ne (pc' := 89) (tg := 92) rfl rfl dX9_poured_86 (fun c22 => ?_) (fun c22 => ?_)
    · have hk := (if_neg c22).symm.trans hk
      refine j_iinc (pc' := 95) (v := x8 + 1) rfl rfl (lt_b rfl) rfl rfl dX9_poured_92 ?_
      refine j_goto (tg := 62) rfl dX9_poured_95 ?_
      obtain rfl := Option.some.inj hk
      exact hc _ _ _ rfl _ _ _
    · have hk := (if_pos c22).symm.trans hk
      refine j_iinc (pc' := 92) (v := x2 + 1) rfl rfl (lt_b rfl) rfl rfl dX9_poured_89 ?_
      refine j_iinc (pc' := 95) (v := x8 + 1) rfl rfl (lt_b rfl) rfl rfl dX9_poured_92 ?_
      refine j_goto (tg := 62) rfl dX9_poured_95 ?_
      obtain rfl := Option.some.inj hk
      exact hc _ _ _ rfl _ _ _
theorem lM_poured_s62 {x1 : Int32} {x3 : Int32} {x4 : Int32} {x5 : Int32} {x6 : Int32} {x7 : Int32} : ∀ (n : Nat) (x2 : Int32) (x8 : Int32) (σ : Mem) (e : (Int32 × Mem)), loopF n (kM_poured_s62 x1 x3 x4 x5 x6 x7) (x2, x8, σ) = some e → (∀ (z2 : Int32) (ς : Mem), e = (z2, ς) → ∀ (o8 o9 o10 o11 : Option AV), J l D dA H0 YM_poured h0 Po 0 0 (hp ς) 98 [some (vR (some (30, 0))), some (vI x1), some (vI z2), some (vI x3), some (vI x4), some (vI x5), some (vI x6), some (vI x7), o8, o9, o10, o11] []) → ∀ (o9 o10 o11 : Option AV), J l D dA H0 YM_poured h0 Po 0 0 (hp σ) 62 [some (vR (some (30, 0))), some (vI x1), some (vI x2), some (vI x3), some (vI x4), some (vI x5), some (vI x6), some (vI x7), some (vI x8), o9, o10, o11] []
  | 0, x2, x8, σ, e, he => by cases he
  | n + 1, x2, x8, σ, e, he => by
    intro hx0 o9 o10 o11
    rcases loopF_succ he with ⟨s', h1, h2⟩ | h1
    · refine qM_poured_s62 h1 ?_ ?_
      · intro z2 z8 ς ee
        cases ee
        exact lM_poured_s62 n z2 z8 ς e h2 hx0
      · intro z2 ς ee
        cases ee
    · refine qM_poured_s62 h1 ?_ ?_
      · intro z2 z8 ς ee
        cases ee
      · intro z2 ς ee
        exact hx0 z2 ς (Sum.inr.inj ee)
theorem qM_poured_x98 {σ : Mem} {x1 : Int32} {x2 : Int32} {x3 : Int32} {x4 : Int32} {x5 : Int32} {x6 : Int32} {x7 : Int32} {o8 : Option AV} {o9 : Option AV} {o10 : Option AV} {o11 : Option AV} {out : Int32 × Int32 × Int32 × Int32 × Int32 × Int32 × Mem ⊕ (Int32 × Int32 × Int32 × Int32 × Int32 × Mem)} (hk : kM_poured_x98 σ x1 x2 x3 x4 x5 x6 x7 = some out) (hc : ∀ (z2 : Int32) (z3 : Int32) (z4 : Int32) (z5 : Int32) (z6 : Int32) (z7 : Int32) (ς : Mem), out = .inl (z2, z3, z4, z5, z6, z7, ς) → ∀ (o8 o9 o10 o11 : Option AV), J l D dA H0 YM_poured h0 Po 0 0 (hp ς) 16 [some (vR (some (30, 0))), some (vI x1), some (vI z2), some (vI z3), some (vI z4), some (vI z5), some (vI z6), some (vI z7), o8, o9, o10, o11] []) (hx0 : ∀ (z2 : Int32) (z3 : Int32) (z4 : Int32) (z5 : Int32) (z6 : Int32) (ς : Mem), out = .inr (z2, z3, z4, z5, z6, ς) → ∀ (o7 o8 o9 o10 o11 : Option AV), J l D dA H0 YM_poured h0 Po 0 0 (hp ς) 193 [some (vR (some (30, 0))), some (vI x1), some (vI z2), some (vI z3), some (vI z4), some (vI z5), some (vI z6), o7, o8, o9, o10, o11] []) : J l D dA H0 YM_poured h0 Po 0 0 (hp σ) 98 [some (vR (some (30, 0))), some (vI x1), some (vI x2), some (vI x3), some (vI x4), some (vI x5), some (vI x6), some (vI x7), o8, o9, o10, o11] [] := by
  unfold kM_poured_x98 at hk
  refine j_goto (tg := 187) rfl dX9_poured_98 ?_
  refine j_iinc (pc' := 190) (v := x7 + 1) rfl rfl (lt_b rfl) rfl rfl dX9_poured_187 ?_
  refine j_goto (tg := 16) rfl dX9_poured_190 ?_
  obtain rfl := Option.some.inj hk
  exact hc _ _ _ _ _ _ _ rfl _ _ _ _
theorem qM_poured_s16 {σ : Mem} {x1 : Int32} {x2 : Int32} {x3 : Int32} {x4 : Int32} {x5 : Int32} {x6 : Int32} {x7 : Int32} {o8 : Option AV} {o9 : Option AV} {o10 : Option AV} {o11 : Option AV} {out : (Int32 × Int32 × Int32 × Int32 × Int32 × Int32 × Mem) ⊕ (Int32 × Int32 × Int32 × Int32 × Int32 × Mem)} (hk : kM_poured_s16 x1 (x2, x3, x4, x5, x6, x7, σ) = some out) (hc : ∀ (z2 : Int32) (z3 : Int32) (z4 : Int32) (z5 : Int32) (z6 : Int32) (z7 : Int32) (ς : Mem), out = .inl (z2, z3, z4, z5, z6, z7, ς) → ∀ (o8 o9 o10 o11 : Option AV), J l D dA H0 YM_poured h0 Po 0 0 (hp ς) 16 [some (vR (some (30, 0))), some (vI x1), some (vI z2), some (vI z3), some (vI z4), some (vI z5), some (vI z6), some (vI z7), o8, o9, o10, o11] []) (hx0 : ∀ (z2 : Int32) (z3 : Int32) (z4 : Int32) (z5 : Int32) (z6 : Int32) (ς : Mem), out = .inr (z2, z3, z4, z5, z6, ς) → ∀ (o7 o8 o9 o10 o11 : Option AV), J l D dA H0 YM_poured h0 Po 0 0 (hp ς) 193 [some (vR (some (30, 0))), some (vI x1), some (vI z2), some (vI z3), some (vI z4), some (vI z5), some (vI z6), o7, o8, o9, o10, o11] []) : J l D dA H0 YM_poured h0 Po 0 0 (hp σ) 16 [some (vR (some (30, 0))), some (vI x1), some (vI x2), some (vI x3), some (vI x4), some (vI x5), some (vI x6), some (vI x7), o8, o9, o10, o11] [] := by
  unfold kM_poured_s16 at hk
  refine j_iload (pc' := 18) rfl rfl dX9_poured_16 ?_
  refine j_bipush (pc' := 20) (v := 16) rfl rfl dX9_poured_18 ?_
  refine j_ic_ge (pc' := 23) (tg := 193) rfl rfl dX9_poured_20 (fun c27 => ?_) (fun c27 => ?_)
  · have hk := (if_pos c27).symm.trans hk
    obtain rfl := Option.some.inj hk
    exact hx0 _ _ _ _ _ _ rfl _ _ _ _ _
  · have hk := (if_neg c27).symm.trans hk
    refine j_aload_n (pc' := 24) rfl rfl dX9_poured_23 ?_
    refine j_iload (pc' := 26) rfl rfl dX9_poured_24 ?_
    obtain ⟨⟨r1, σ2⟩, hx, hk⟩ := of_bind hk
    refine j_cv1 (pc' := 29) (LM_isRoom hx) cv_RX9_107 ⟨le_b rfl, le_b rfl⟩ (hp_e rfl) rfl rfl (le_b rfl) ⟨rfl, rfl⟩ ⟨le_b rfl, le_b rfl⟩ rfl rfl dX9_poured_26 ?_
    refine j_if_eq (pc' := 32) (tg := 187) rfl rfl dX9_poured_29 (fun c26 => ?_) (fun c26 => ?_)
    · have hk := (if_pos c26).symm.trans hk
      refine j_iinc (pc' := 190) (v := x7 + 1) rfl rfl (lt_b rfl) rfl rfl dX9_poured_187 ?_
      refine j_goto (tg := 16) rfl dX9_poured_190 ?_
      obtain rfl := Option.some.inj hk
      exact hc _ _ _ _ _ _ _ rfl _ _ _ _
    · have hk := (if_neg c26).symm.trans hk
      refine j_aload_n (pc' := 33) rfl rfl dX9_poured_32 ?_
      refine j_iload (pc' := 35) rfl rfl dX9_poured_33 ?_
      refine j_aload_n (pc' := 36) rfl rfl dX9_poured_35 ?_
      refine j_getf (pc' := 39) fg_RX9_123 (hp_e rfl) rfl rfl dX9_poured_36 ?_
      obtain ⟨⟨r3, σ4⟩, hx, hk⟩ := of_bind hk
      refine j_cv1 (pc' := 42) (LM_isOpen hx) cv_RX9_126 ⟨le_b rfl, le_b rfl⟩ (hp_e rfl) rfl rfl (le_b rfl) ⟨rfl, rfl⟩ ⟨le_b rfl, le_b rfl⟩ rfl rfl dX9_poured_39 ?_
      refine j_if_ne (pc' := 45) (tg := 48) rfl rfl dX9_poured_42 (fun c25 => ?_) (fun c25 => ?_)
      · have hk := (if_neg c25).symm.trans hk
        refine j_aload_n (pc' := 49) rfl rfl dX9_poured_48 ?_
        refine j_getf (pc' := 52) fg_RX9_13 (hp_e rfl) rfl rfl dX9_poured_49 ?_
        refine j_iload (pc' := 54) rfl rfl dX9_poured_52 ?_
        obtain ⟨g5, hk⟩ := of_ite hk
        refine j_iald (pc' := 55) (hp_e rfl) (inR_in g5) rfl dX9_poured_54 ?_
        refine j_iconst (pc' := 56) (v := 3) rfl rfl dX9_poured_55 ?_
        refine j_ic_ne (pc' := 59) (tg := 101) rfl rfl dX9_poured_56 (fun c24 => ?_) (fun c24 => ?_)
        · have hk := (if_neg c24).symm.trans hk
          refine j_aload_n (pc' := 102) rfl rfl dX9_poured_101 ?_
          refine j_getf (pc' := 105) fg_RX9_67 (hp_e rfl) rfl rfl dX9_poured_102 ?_
          refine j_iload (pc' := 107) rfl rfl dX9_poured_105 ?_
          obtain ⟨g6, hk⟩ := of_ite hk
          refine j_iald (pc' := 108) (hp_e rfl) (inR_in g6) rfl dX9_poured_107 ?_
          refine j_if_ne (pc' := 111) (tg := 187) rfl rfl dX9_poured_108 (fun c19 => ?_) (fun c19 => ?_)
          · have hk := (if_neg c19).symm.trans hk
            refine j_iinc (pc' := 190) (v := x7 + 1) rfl rfl (lt_b rfl) rfl rfl dX9_poured_187 ?_
            refine j_goto (tg := 16) rfl dX9_poured_190 ?_
            obtain rfl := Option.some.inj hk
            exact hc _ _ _ _ _ _ _ rfl _ _ _ _
          · have hk := (if_pos c19).symm.trans hk
            refine j_aload_n (pc' := 112) rfl rfl dX9_poured_111 ?_
            refine j_getf (pc' := 115) fg_RX9_13 (hp_e rfl) rfl rfl dX9_poured_112 ?_
            refine j_iload (pc' := 117) rfl rfl dX9_poured_115 ?_
            obtain ⟨g7, hk⟩ := of_ite hk
            refine j_iald (pc' := 118) (hp_e rfl) (inR_in g7) rfl dX9_poured_117 ?_
            refine j_if_ne (pc' := 121) (tg := 127) rfl rfl dX9_poured_118 (fun c18 => ?_) (fun c18 => ?_)
            · have hk := (if_neg c18).symm.trans hk
              refine j_aload_n (pc' := 128) rfl rfl dX9_poured_127 ?_
              refine j_getf (pc' := 131) fg_RX9_13 (hp_e rfl) rfl rfl dX9_poured_128 ?_
              refine j_iload (pc' := 133) rfl rfl dX9_poured_131 ?_
              obtain ⟨g8, hk⟩ := of_ite hk
              refine j_iald (pc' := 134) (hp_e rfl) (inR_in g8) rfl dX9_poured_133 ?_
              refine j_iconst (pc' := 135) (v := 2) rfl rfl dX9_poured_134 ?_
              refine j_ic_ne (pc' := 138) (tg := 144) rfl rfl dX9_poured_135 (fun c17 => ?_) (fun c17 => ?_)
              · have hk := (if_neg c17).symm.trans hk
                refine j_iinc (pc' := 147) (v := x4 + 1) rfl rfl (lt_b rfl) rfl rfl dX9_poured_144 ?_
                exact qM_poured_j147 hk hc hx0
              · have hk := (if_pos c17).symm.trans hk
                refine j_iinc (pc' := 141) (v := x5 + 1) rfl rfl (lt_b rfl) rfl rfl dX9_poured_138 ?_
                refine j_goto (tg := 147) rfl dX9_poured_141 ?_
                exact qM_poured_j147 hk hc hx0
            · have hk := (if_pos c18).symm.trans hk
              refine j_iinc (pc' := 124) (v := x3 + 1) rfl rfl (lt_b rfl) rfl rfl dX9_poured_121 ?_
              refine j_goto (tg := 147) rfl dX9_poured_124 ?_
              exact qM_poured_j147 hk hc hx0
        · have hk := (if_pos c24).symm.trans hk
          refine j_iconst (pc' := 60) (v := 0) rfl rfl dX9_poured_59 ?_
          refine j_istore (pc' := 62) (lt_b rfl) rfl rfl dX9_poured_60 ?_
          obtain ⟨e, he, hk⟩ := of_bind hk
          refine lM_poured_s62 FU _ _ _ e he ?_ _ _ _
          · intro z2 ς ee _ _ _ _
            subst ee
            exact qM_poured_x98 hk hc hx0
      · have hk := (if_pos c25).symm.trans hk
        refine j_goto (tg := 187) rfl dX9_poured_45 ?_
        refine j_iinc (pc' := 190) (v := x7 + 1) rfl rfl (lt_b rfl) rfl rfl dX9_poured_187 ?_
        refine j_goto (tg := 16) rfl dX9_poured_190 ?_
        obtain rfl := Option.some.inj hk
        exact hc _ _ _ _ _ _ _ rfl _ _ _ _
theorem lM_poured_s16 {x1 : Int32} : ∀ (n : Nat) (x2 : Int32) (x3 : Int32) (x4 : Int32) (x5 : Int32) (x6 : Int32) (x7 : Int32) (σ : Mem) (e : (Int32 × Int32 × Int32 × Int32 × Int32 × Mem)), loopF n (kM_poured_s16 x1) (x2, x3, x4, x5, x6, x7, σ) = some e → (∀ (z2 : Int32) (z3 : Int32) (z4 : Int32) (z5 : Int32) (z6 : Int32) (ς : Mem), e = (z2, z3, z4, z5, z6, ς) → ∀ (o7 o8 o9 o10 o11 : Option AV), J l D dA H0 YM_poured h0 Po 0 0 (hp ς) 193 [some (vR (some (30, 0))), some (vI x1), some (vI z2), some (vI z3), some (vI z4), some (vI z5), some (vI z6), o7, o8, o9, o10, o11] []) → ∀ (o8 o9 o10 o11 : Option AV), J l D dA H0 YM_poured h0 Po 0 0 (hp σ) 16 [some (vR (some (30, 0))), some (vI x1), some (vI x2), some (vI x3), some (vI x4), some (vI x5), some (vI x6), some (vI x7), o8, o9, o10, o11] []
  | 0, x2, x3, x4, x5, x6, x7, σ, e, he => by cases he
  | n + 1, x2, x3, x4, x5, x6, x7, σ, e, he => by
    intro hx0 o8 o9 o10 o11
    rcases loopF_succ he with ⟨s', h1, h2⟩ | h1
    · refine qM_poured_s16 h1 ?_ ?_
      · intro z2 z3 z4 z5 z6 z7 ς ee
        cases ee
        exact lM_poured_s16 n z2 z3 z4 z5 z6 z7 ς e h2 hx0
      · intro z2 z3 z4 z5 z6 ς ee
        cases ee
    · refine qM_poured_s16 h1 ?_ ?_
      · intro z2 z3 z4 z5 z6 z7 ς ee
        cases ee
      · intro z2 z3 z4 z5 z6 ς ee
        exact hx0 z2 z3 z4 z5 z6 ς (Sum.inr.inj ee)
theorem qM_poured_x193 {σ : Mem} {x1 : Int32} {x2 : Int32} {x3 : Int32} {x4 : Int32} {x5 : Int32} {x6 : Int32} {o7 : Option AV} {o8 : Option AV} {o9 : Option AV} {o10 : Option AV} {o11 : Option AV} {res : Int32 × Mem} (hk : kM_poured_x193 σ x1 x2 x3 x4 x5 x6 = some res) (hP : Po (some (vI res.1)) (hp res.2)) : J l D dA H0 YM_poured h0 Po 0 0 (hp σ) 193 [some (vR (some (30, 0))), some (vI x1), some (vI x2), some (vI x3), some (vI x4), some (vI x5), some (vI x6), o7, o8, o9, o10, o11] [] := by
  unfold kM_poured_x193 at hk
  refine j_iload_n (pc' := 194) rfl rfl dX9_poured_193 ?_
  refine j_iload (pc' := 196) rfl rfl dX9_poured_194 ?_
  obtain ⟨⟨r28, σ29⟩, hx, hk⟩ := of_bind hk
  refine j_cs1 (pc' := 199) (LM_less hx) cs_RX9_132 ⟨le_b rfl, le_b rfl⟩ rfl (le_b rfl) ⟨rfl, rfl⟩ ⟨le_b rfl, le_b rfl⟩ rfl rfl dX9_poured_196 ?_
  refine j_istore (pc' := 201) (lt_b rfl) rfl rfl dX9_poured_199 ?_
  refine j_iload (pc' := 203) rfl rfl dX9_poured_201 ?_
  refine j_iconst (pc' := 204) (v := 2) rfl rfl dX9_poured_203 ?_
  refine j_iload (pc' := 206) rfl rfl dX9_poured_204 ?_
  refine j_imul (pc' := 207) rfl dX9_poured_206 ?_
  refine j_isub (pc' := 208) rfl dX9_poured_207 ?_
  refine j_istore (pc' := 210) (lt_b rfl) rfl rfl dX9_poured_208 ?_
  refine j_iload (pc' := 212) rfl rfl dX9_poured_210 ?_
  refine j_aload_n (pc' := 213) rfl rfl dX9_poured_212 ?_
  refine j_getf (pc' := 216) fg_RX9_73 (hp_e rfl) rfl rfl dX9_poured_213 ?_
  refine j_iconst (pc' := 217) (v := 0) rfl rfl dX9_poured_216 ?_
  obtain ⟨g30, hk⟩ := of_ite hk
  refine j_iald (pc' := 218) (hp_e rfl) (inR_in g30) rfl dX9_poured_217 ?_
  refine j_iload_n (pc' := 219) rfl rfl dX9_poured_218 ?_
  obtain ⟨⟨r31, σ32⟩, hx, hk⟩ := of_bind hk
  refine j_cs1 (pc' := 222) (LM_less hx) cs_RX9_132 ⟨le_b rfl, le_b rfl⟩ rfl (le_b rfl) ⟨rfl, rfl⟩ ⟨le_b rfl, le_b rfl⟩ rfl rfl dX9_poured_219 ?_
  refine j_iadd (pc' := 223) rfl dX9_poured_222 ?_
  refine j_istore (pc' := 225) (lt_b rfl) rfl rfl dX9_poured_223 ?_
  refine j_aload_n (pc' := 226) rfl rfl dX9_poured_225 ?_
  refine j_getf (pc' := 229) fg_RX9_73 (hp_e rfl) rfl rfl dX9_poured_226 ?_
  refine j_iconst (pc' := 230) (v := 3) rfl rfl dX9_poured_229 ?_
  obtain ⟨g33, hk⟩ := of_ite hk
  refine j_iald (pc' := 231) (hp_e rfl) (inR_in g33) rfl dX9_poured_230 ?_
  refine j_iload (pc' := 233) rfl rfl dX9_poured_231 ?_
  obtain ⟨⟨r34, σ35⟩, hx, hk⟩ := of_bind hk
  refine j_cs1 (pc' := 236) (LM_less hx) cs_RX9_132 ⟨le_b rfl, le_b rfl⟩ rfl (le_b rfl) ⟨rfl, rfl⟩ ⟨le_b rfl, le_b rfl⟩ rfl rfl dX9_poured_233 ?_
  refine j_istore (pc' := 238) (lt_b rfl) rfl rfl dX9_poured_236 ?_
  refine j_iload (pc' := 240) rfl rfl dX9_poured_238 ?_
  refine j_iload (pc' := 242) rfl rfl dX9_poured_240 ?_
  refine j_iadd (pc' := 243) rfl dX9_poured_242 ?_
  refine j_istore (pc' := 245) (lt_b rfl) rfl rfl dX9_poured_243 ?_
  refine j_iload (pc' := 247) rfl rfl dX9_poured_245 ?_
  refine j_iload (pc' := 249) rfl rfl dX9_poured_247 ?_
  refine j_isub (pc' := 250) rfl dX9_poured_249 ?_
  refine j_istore (pc' := 252) (lt_b rfl) rfl rfl dX9_poured_250 ?_
  refine j_aload_n (pc' := 253) rfl rfl dX9_poured_252 ?_
  refine j_getf (pc' := 256) fg_RX9_73 (hp_e rfl) rfl rfl dX9_poured_253 ?_
  refine j_iconst (pc' := 257) (v := 2) rfl rfl dX9_poured_256 ?_
  obtain ⟨g36, hk⟩ := of_ite hk
  refine j_iald (pc' := 258) (hp_e rfl) (inR_in g36) rfl dX9_poured_257 ?_
  refine j_iload (pc' := 260) rfl rfl dX9_poured_258 ?_
  obtain ⟨⟨r37, σ38⟩, hx, hk⟩ := of_bind hk
  refine j_cs1 (pc' := 263) (LM_less hx) cs_RX9_132 ⟨le_b rfl, le_b rfl⟩ rfl (le_b rfl) ⟨rfl, rfl⟩ ⟨le_b rfl, le_b rfl⟩ rfl rfl dX9_poured_260 ?_
  refine j_istore (pc' := 265) (lt_b rfl) rfl rfl dX9_poured_263 ?_
  refine j_aload_n (pc' := 266) rfl rfl dX9_poured_265 ?_
  refine j_getf (pc' := 269) fg_RX9_73 (hp_e rfl) rfl rfl dX9_poured_266 ?_
  refine j_iconst (pc' := 270) (v := 2) rfl rfl dX9_poured_269 ?_
  obtain ⟨g39, hk⟩ := of_ite hk
  refine j_iald (pc' := 271) (hp_e rfl) (inR_in g39) rfl dX9_poured_270 ?_
  refine j_iload (pc' := 273) rfl rfl dX9_poured_271 ?_
  refine j_isub (pc' := 274) rfl dX9_poured_273 ?_
  refine j_iload (pc' := 276) rfl rfl dX9_poured_274 ?_
  obtain ⟨⟨r40, σ41⟩, hx, hk⟩ := of_bind hk
  refine j_cs1 (pc' := 279) (LM_less hx) cs_RX9_132 ⟨le_b rfl, le_b rfl⟩ rfl (le_b rfl) ⟨rfl, rfl⟩ ⟨le_b rfl, le_b rfl⟩ rfl rfl dX9_poured_276 ?_
  refine j_istore (pc' := 281) (lt_b rfl) rfl rfl dX9_poured_279 ?_
  refine j_iload (pc' := 283) rfl rfl dX9_poured_281 ?_
  refine j_iload (pc' := 285) rfl rfl dX9_poured_283 ?_
  refine j_iload (pc' := 287) rfl rfl dX9_poured_285 ?_
  refine j_iadd (pc' := 288) rfl dX9_poured_287 ?_
  refine j_iadd (pc' := 289) rfl dX9_poured_288 ?_
  refine j_istore (pc' := 291) (lt_b rfl) rfl rfl dX9_poured_289 ?_
  refine j_iload (pc' := 293) rfl rfl dX9_poured_291 ?_
  refine j_aload_n (pc' := 294) rfl rfl dX9_poured_293 ?_
  refine j_getf (pc' := 297) fg_RX9_73 (hp_e rfl) rfl rfl dX9_poured_294 ?_
  refine j_iconst (pc' := 298) (v := 1) rfl rfl dX9_poured_297 ?_
  obtain ⟨g42, hk⟩ := of_ite hk
  refine j_iald (pc' := 299) (hp_e rfl) (inR_in g42) rfl dX9_poured_298 ?_
  refine j_iload_n (pc' := 300) rfl rfl dX9_poured_299 ?_
  refine j_iload (pc' := 302) rfl rfl dX9_poured_300 ?_
  refine j_iadd (pc' := 303) rfl dX9_poured_302 ?_
  refine j_iload (pc' := 305) rfl rfl dX9_poured_303 ?_
  refine j_isub (pc' := 306) rfl dX9_poured_305 ?_
  refine j_iload (pc' := 308) rfl rfl dX9_poured_306 ?_
  refine j_iadd (pc' := 309) rfl dX9_poured_308 ?_
  refine j_iload (pc' := 311) rfl rfl dX9_poured_309 ?_
  refine j_isub (pc' := 312) rfl dX9_poured_311 ?_
  obtain ⟨⟨r43, σ44⟩, hx, hk⟩ := of_bind hk
  refine j_cs1 (pc' := 315) (LM_less hx) cs_RX9_132 ⟨le_b rfl, le_b rfl⟩ rfl (le_b rfl) ⟨rfl, rfl⟩ ⟨le_b rfl, le_b rfl⟩ rfl rfl dX9_poured_312 ?_
  refine j_iadd (pc' := 316) rfl dX9_poured_315 ?_
  obtain rfl := Option.some.inj hk
  exact j_iret rfl ⟨rfl, rfl⟩ dX9_poured_316 hP
theorem qM_poured {σ : Mem} {x1 : Int32} {o2 : Option AV} {o3 : Option AV} {o4 : Option AV} {o5 : Option AV} {o6 : Option AV} {o7 : Option AV} {o8 : Option AV} {o9 : Option AV} {o10 : Option AV} {o11 : Option AV} {res : Int32 × Mem} (hk : kM_poured σ x1 = some res) (hP : Po (some (vI res.1)) (hp res.2)) : J l D dA H0 YM_poured h0 Po 0 0 (hp σ) 0 [some (vR (some (30, 0))), some (vI x1), o2, o3, o4, o5, o6, o7, o8, o9, o10, o11] [] := by
  unfold kM_poured at hk
  refine j_iconst (pc' := 1) (v := 0) rfl rfl dX9_poured_0 ?_
  refine j_istore_n (pc' := 2) (lt_b rfl) rfl rfl dX9_poured_1 ?_
  refine j_iconst (pc' := 3) (v := 0) rfl rfl dX9_poured_2 ?_
  refine j_istore_n (pc' := 4) (lt_b rfl) rfl rfl dX9_poured_3 ?_
  refine j_iconst (pc' := 5) (v := 0) rfl rfl dX9_poured_4 ?_
  refine j_istore (pc' := 7) (lt_b rfl) rfl rfl dX9_poured_5 ?_
  refine j_iconst (pc' := 8) (v := 0) rfl rfl dX9_poured_7 ?_
  refine j_istore (pc' := 10) (lt_b rfl) rfl rfl dX9_poured_8 ?_
  refine j_iconst (pc' := 11) (v := 0) rfl rfl dX9_poured_10 ?_
  refine j_istore (pc' := 13) (lt_b rfl) rfl rfl dX9_poured_11 ?_
  refine j_iconst (pc' := 14) (v := 0) rfl rfl dX9_poured_13 ?_
  refine j_istore (pc' := 16) (lt_b rfl) rfl rfl dX9_poured_14 ?_
  obtain ⟨e, he, hk⟩ := of_bind hk
  refine lM_poured_s16 FU _ _ _ _ _ _ _ e he ?_ _ _ _ _
  · intro z2 z3 z4 z5 z6 ς ee _ _ _ _ _
    subst ee
    exact qM_poured_x193 hk hP
theorem LM_poured {σ σ' : Mem} {x1 : Int32} {r : Int32} (hk : kM_poured σ x1 = some (r, σ')) : M l D dA H0 yX9_poured YM_poured [vR (some (30, 0)), vI x1] (hp σ) (fun x h' => x = some (vI r) ∧ h' = hp σ') :=
  m_of (j := 10) (by decide) rfl (fun hh => by cases hh) ⟨fun _ _ => trivial, rfl⟩ (le_b rfl) (qM_poured hk ⟨rfl, rfl⟩)
theorem qM_canAll_s4 {σ : Mem} {x1 : Int32} {x2 : Int32} {out : (Int32 × Int32 × Mem) ⊕ (Int32 × Mem)} (hk : kM_canAll_s4 (x1, x2, σ) = some out) (hc : ∀ (z1 : Int32) (z2 : Int32) (ς : Mem), out = .inl (z1, z2, ς) → ∀ (_ : Unit), J l D dA H0 YM_canAll h0 Po 0 0 (hp ς) 4 [some (vR (some (30, 0))), some (vI z1), some (vI z2)] []) (hx0 : ∀ (z1 : Int32) (ς : Mem), out = .inr (z1, ς) → ∀ (o2 : Option AV), J l D dA H0 YM_canAll h0 Po 0 0 (hp ς) 36 [some (vR (some (30, 0))), some (vI z1), o2] []) : J l D dA H0 YM_canAll h0 Po 0 0 (hp σ) 4 [some (vR (some (30, 0))), some (vI x1), some (vI x2)] [] := by
  unfold kM_canAll_s4 at hk
  refine j_iload_n (pc' := 5) rfl rfl dX9_canAll_4 ?_
  refine j_iconst (pc' := 6) (v := 5) rfl rfl dX9_canAll_5 ?_
  refine j_ic_ge (pc' := 9) (tg := 36) rfl rfl dX9_canAll_6 (fun c4 => ?_) (fun c4 => ?_)
  · have hk := (if_pos c4).symm.trans hk
    obtain rfl := Option.some.inj hk
    exact hx0 _ _ rfl _
  · have hk := (if_neg c4).symm.trans hk
    refine j_aload_n (pc' := 10) rfl rfl dX9_canAll_9 ?_
    refine j_getf (pc' := 13) fg_RX9_73 (hp_e rfl) rfl rfl dX9_canAll_10 ?_
    refine j_iload_n (pc' := 14) rfl rfl dX9_canAll_13 ?_
    refine j_aload_n (pc' := 15) rfl rfl dX9_canAll_14 ?_
    refine j_getf (pc' := 18) fg_RX9_70 (hp_e rfl) rfl rfl dX9_canAll_15 ?_
    refine j_iload_n (pc' := 19) rfl rfl dX9_canAll_18 ?_
    obtain ⟨g1, hk⟩ := of_ite hk
    refine j_iald (pc' := 20) (hp_e rfl) (inR_in g1) rfl dX9_canAll_19 ?_
    obtain ⟨g2, hk⟩ := of_ite hk
    refine j_si (pc' := 21) (fun _ _ _ => rfl) (inR_in g2) rfl dX9_canAll_20 ?_
    refine j_iload_n (pc' := 22) rfl rfl dX9_canAll_21 ?_
    refine j_aload_n (pc' := 23) rfl rfl dX9_canAll_22 ?_
    refine j_getf (pc' := 26) fg_RX9_70 (hp_e rfl) rfl rfl dX9_canAll_23 ?_
    refine j_iload_n (pc' := 27) rfl rfl dX9_canAll_26 ?_
    obtain ⟨g3, hk⟩ := of_ite hk
    refine j_iald (pc' := 28) (hp_e rfl) (inR_in g3) rfl dX9_canAll_27 ?_
    refine j_iadd (pc' := 29) rfl dX9_canAll_28 ?_
    refine j_istore_n (pc' := 30) (lt_b rfl) rfl rfl dX9_canAll_29 ?_
    refine j_iinc (pc' := 33) (v := x2 + 1) rfl rfl (lt_b rfl) rfl rfl dX9_canAll_30 ?_
    refine j_goto (tg := 4) rfl dX9_canAll_33 ?_
    obtain rfl := Option.some.inj hk
    exact hc _ _ _ rfl ()
theorem lM_canAll_s4 : ∀ (n : Nat) (x1 : Int32) (x2 : Int32) (σ : Mem) (e : (Int32 × Mem)), loopF n (kM_canAll_s4) (x1, x2, σ) = some e → (∀ (z1 : Int32) (ς : Mem), e = (z1, ς) → ∀ (o2 : Option AV), J l D dA H0 YM_canAll h0 Po 0 0 (hp ς) 36 [some (vR (some (30, 0))), some (vI z1), o2] []) → ∀ (_ : Unit), J l D dA H0 YM_canAll h0 Po 0 0 (hp σ) 4 [some (vR (some (30, 0))), some (vI x1), some (vI x2)] []
  | 0, x1, x2, σ, e, he => by cases he
  | n + 1, x1, x2, σ, e, he => by
    intro hx0 u
    rcases loopF_succ he with ⟨s', h1, h2⟩ | h1
    · refine qM_canAll_s4 h1 ?_ ?_
      · intro z1 z2 ς ee
        cases ee
        exact lM_canAll_s4 n z1 z2 ς e h2 hx0
      · intro z1 ς ee
        cases ee
    · refine qM_canAll_s4 h1 ?_ ?_
      · intro z1 z2 ς ee
        cases ee
      · intro z1 ς ee
        exact hx0 z1 ς (Sum.inr.inj ee)
theorem qM_canAll_x36 {σ : Mem} {x1 : Int32} {o2 : Option AV} {res : Int32 × Mem} (hk : kM_canAll_x36 σ x1 = some res) (hP : Po (some (vI res.1)) (hp res.2)) : J l D dA H0 YM_canAll h0 Po 0 0 (hp σ) 36 [some (vR (some (30, 0))), some (vI x1), o2] [] := by
  unfold kM_canAll_x36 at hk
  refine j_aload_n (pc' := 37) rfl rfl dX9_canAll_36 ?_
  refine j_aload_n (pc' := 38) rfl rfl dX9_canAll_37 ?_
  refine j_getf (pc' := 41) fg_RX9_73 (hp_e rfl) rfl rfl dX9_canAll_38 ?_
  refine j_iconst (pc' := 42) (v := 4) rfl rfl dX9_canAll_41 ?_
  obtain ⟨g5, hk⟩ := of_ite hk
  refine j_iald (pc' := 43) (hp_e rfl) (inR_in g5) rfl dX9_canAll_42 ?_
  obtain ⟨⟨r6, σ7⟩, hx, hk⟩ := of_bind hk
  refine j_cv1 (pc' := 46) (LM_poured hx) cv_RX9_136 ⟨le_b rfl, le_b rfl⟩ (hp_e rfl) rfl rfl (le_b rfl) ⟨rfl, rfl⟩ ⟨le_b rfl, le_b rfl⟩ rfl rfl dX9_canAll_43 ?_
  refine j_iload_n (pc' := 47) rfl rfl dX9_canAll_46 ?_
  refine j_ic_ne (pc' := 50) (tg := 54) rfl rfl dX9_canAll_47 (fun c8 => ?_) (fun c8 => ?_)
  · have hk := (if_neg c8).symm.trans hk
    refine j_iconst (pc' := 55) (v := 0) rfl rfl dX9_canAll_54 ?_
    obtain rfl := Option.some.inj hk
    exact j_zret rfl rfl ⟨rfl, rfl⟩ dX9_canAll_55 hP
  · have hk := (if_pos c8).symm.trans hk
    refine j_iconst (pc' := 51) (v := 1) rfl rfl dX9_canAll_50 ?_
    refine j_goto (tg := 55) rfl dX9_canAll_51 ?_
    obtain rfl := Option.some.inj hk
    exact j_zret rfl rfl ⟨rfl, rfl⟩ dX9_canAll_55 hP
theorem qM_canAll {σ : Mem} {o1 : Option AV} {o2 : Option AV} {res : Int32 × Mem} (hk : kM_canAll σ = some res) (hP : Po (some (vI res.1)) (hp res.2)) : J l D dA H0 YM_canAll h0 Po 0 0 (hp σ) 0 [some (vR (some (30, 0))), o1, o2] [] := by
  unfold kM_canAll at hk
  refine j_iconst (pc' := 1) (v := 0) rfl rfl dX9_canAll_0 ?_
  refine j_istore_n (pc' := 2) (lt_b rfl) rfl rfl dX9_canAll_1 ?_
  refine j_iconst (pc' := 3) (v := 0) rfl rfl dX9_canAll_2 ?_
  refine j_istore_n (pc' := 4) (lt_b rfl) rfl rfl dX9_canAll_3 ?_
  obtain ⟨e, he, hk⟩ := of_bind hk
  refine lM_canAll_s4 FU _ _ _ e he ?_ ()
  · intro z1 ς ee _
    subst ee
    exact qM_canAll_x36 hk hP
theorem LM_canAll {σ σ' : Mem} {r : Int32} (hk : kM_canAll σ = some (r, σ')) : M l D dA H0 yX9_canAll YM_canAll [vR (some (30, 0))] (hp σ) (fun x h' => x = some (vI r) ∧ h' = hp σ') :=
  m_of (j := 2) (by decide) rfl (fun hh => by cases hh) ⟨fun _ _ => trivial, rfl⟩ (le_b rfl) (qM_canAll hk ⟨rfl, rfl⟩)
theorem qM_lack_s11 {σ : Mem} {x1 : Int32} {x2 : Int32} {x3 : Int32} {x4 : Int32} {x5 : Int32} {o6 : Option AV} {o7 : Option AV} {out : (Int32 × Mem) ⊕ (Mem)} (hk : kM_lack_s11 x1 x2 x3 x4 (x5, σ) = some out) (hc : ∀ (z5 : Int32) (ς : Mem), out = .inl (z5, ς) → ∀ (o6 o7 : Option AV), J l D dA H0 YM_lack h0 Po 0 0 (hp ς) 11 [some (vR (some (30, 0))), some (vI x1), some (vI x2), some (vI x3), some (vI x4), some (vI z5), o6, o7] []) (hx0 : ∀ (ς : Mem), out = .inr ς → ∀ (o5 o6 o7 : Option AV), J l D dA H0 YM_lack h0 Po 0 0 (hp ς) 31 [some (vR (some (30, 0))), some (vI x1), some (vI x2), some (vI x3), some (vI x4), o5, o6, o7] []) : J l D dA H0 YM_lack h0 Po 0 0 (hp σ) 11 [some (vR (some (30, 0))), some (vI x1), some (vI x2), some (vI x3), some (vI x4), some (vI x5), o6, o7] [] := by
  unfold kM_lack_s11 at hk
  refine j_iload (pc' := 13) rfl rfl dX9_lack_11 ?_
  refine j_iconst (pc' := 14) (v := 5) rfl rfl dX9_lack_13 ?_
  refine j_ic_ge (pc' := 17) (tg := 31) rfl rfl dX9_lack_14 (fun c4 => ?_) (fun c4 => ?_)
  · have hk := (if_pos c4).symm.trans hk
    obtain rfl := Option.some.inj hk
    exact hx0 _ rfl _ _ _
  · have hk := (if_neg c4).symm.trans hk
    refine j_aload_n (pc' := 18) rfl rfl dX9_lack_17 ?_
    refine j_getf (pc' := 21) fg_RX9_73 (hp_e rfl) rfl rfl dX9_lack_18 ?_
    refine j_iload (pc' := 23) rfl rfl dX9_lack_21 ?_
    refine j_iconst (pc' := 24) (v := 0) rfl rfl dX9_lack_23 ?_
    obtain ⟨g3, hk⟩ := of_ite hk
    refine j_si (pc' := 25) (fun _ _ _ => rfl) (inR_in g3) rfl dX9_lack_24 ?_
    refine j_iinc (pc' := 28) (v := x5 + 1) rfl rfl (lt_b rfl) rfl rfl dX9_lack_25 ?_
    refine j_goto (tg := 11) rfl dX9_lack_28 ?_
    obtain rfl := Option.some.inj hk
    exact hc _ _ rfl _ _
theorem lM_lack_s11 {x1 : Int32} {x2 : Int32} {x3 : Int32} {x4 : Int32} : ∀ (n : Nat) (x5 : Int32) (σ : Mem) (e : (Mem)), loopF n (kM_lack_s11 x1 x2 x3 x4) (x5, σ) = some e → (∀ (ς : Mem), e = ς → ∀ (o5 o6 o7 : Option AV), J l D dA H0 YM_lack h0 Po 0 0 (hp ς) 31 [some (vR (some (30, 0))), some (vI x1), some (vI x2), some (vI x3), some (vI x4), o5, o6, o7] []) → ∀ (o6 o7 : Option AV), J l D dA H0 YM_lack h0 Po 0 0 (hp σ) 11 [some (vR (some (30, 0))), some (vI x1), some (vI x2), some (vI x3), some (vI x4), some (vI x5), o6, o7] []
  | 0, x5, σ, e, he => by cases he
  | n + 1, x5, σ, e, he => by
    intro hx0 o6 o7
    rcases loopF_succ he with ⟨s', h1, h2⟩ | h1
    · refine qM_lack_s11 h1 ?_ ?_
      · intro z5 ς ee
        cases ee
        exact lM_lack_s11 n z5 ς e h2 hx0
      · intro ς ee
        cases ee
    · refine qM_lack_s11 h1 ?_ ?_
      · intro z5 ς ee
        cases ee
      · intro ς ee
        exact hx0 ς (Sum.inr.inj ee)
theorem qM_lack_s34 {σ : Mem} {x1 : Int32} {x2 : Int32} {x3 : Int32} {x4 : Int32} {x5 : Int32} {o6 : Option AV} {o7 : Option AV} {out : (Int32 × Int32 × Mem) ⊕ (Int32 × Mem)} (hk : kM_lack_s34 x1 x2 x3 (x4, x5, σ) = some out) (hc : ∀ (z4 : Int32) (z5 : Int32) (ς : Mem), out = .inl (z4, z5, ς) → ∀ (o6 o7 : Option AV), J l D dA H0 YM_lack h0 Po 0 0 (hp ς) 34 [some (vR (some (30, 0))), some (vI x1), some (vI x2), some (vI x3), some (vI z4), some (vI z5), o6, o7] []) (hx0 : ∀ (z4 : Int32) (ς : Mem), out = .inr (z4, ς) → ∀ (o1 o3 o5 o6 o7 : Option AV), J l D dA H0 YM_lack h0 Po 0 0 (hp ς) 87 [some (vR (some (30, 0))), o1, some (vI x2), o3, some (vI z4), o5, o6, o7] []) : J l D dA H0 YM_lack h0 Po 0 0 (hp σ) 34 [some (vR (some (30, 0))), some (vI x1), some (vI x2), some (vI x3), some (vI x4), some (vI x5), o6, o7] [] := by
  unfold kM_lack_s34 at hk
  refine j_iload (pc' := 36) rfl rfl dX9_lack_34 ?_
  refine j_aload_n (pc' := 37) rfl rfl dX9_lack_36 ?_
  refine j_getf (pc' := 40) fg_RX9_117 (hp_e rfl) rfl rfl dX9_lack_37 ?_
  refine j_ic_ge (pc' := 43) (tg := 87) rfl rfl dX9_lack_40 (fun c12 => ?_) (fun c12 => ?_)
  · have hk := (if_pos c12).symm.trans hk
    obtain rfl := Option.some.inj hk
    exact hx0 _ _ rfl _ _ _ _ _
  · have hk := (if_neg c12).symm.trans hk
    refine j_iload (pc' := 45) rfl rfl dX9_lack_43 ?_
    refine j_iload_n (pc' := 46) rfl rfl dX9_lack_45 ?_
    refine j_ic_eq (pc' := 49) (tg := 81) rfl rfl dX9_lack_46 (fun c11 => ?_) (fun c11 => ?_)
    · have hk := (if_pos c11).symm.trans hk
      refine j_iinc (pc' := 84) (v := x5 + 1) rfl rfl (lt_b rfl) rfl rfl dX9_lack_81 ?_
      refine j_goto (tg := 34) rfl dX9_lack_84 ?_
      obtain rfl := Option.some.inj hk
      exact hc _ _ _ rfl _ _
    · have hk := (if_neg c11).symm.trans hk
      refine j_aload_n (pc' := 50) rfl rfl dX9_lack_49 ?_
      refine j_iload (pc' := 52) rfl rfl dX9_lack_50 ?_
      refine j_iload_n (pc' := 53) rfl rfl dX9_lack_52 ?_
      obtain ⟨⟨r5, σ6⟩, hx, hk⟩ := of_bind hk
      refine j_cv1 (pc' := 56) (LM_wants hx) cv_RX9_144 ⟨le_b rfl, le_b rfl⟩ (hp_e rfl) rfl rfl (le_b rfl) ⟨rfl, rfl⟩ ⟨le_b rfl, le_b rfl⟩ rfl rfl dX9_lack_53 ?_
      refine j_if_ne (pc' := 59) (tg := 62) rfl rfl dX9_lack_56 (fun c10 => ?_) (fun c10 => ?_)
      · have hk := (if_neg c10).symm.trans hk
        refine j_aload_n (pc' := 63) rfl rfl dX9_lack_62 ?_
        refine j_getf (pc' := 66) fg_RX9_73 (hp_e rfl) rfl rfl dX9_lack_63 ?_
        refine j_aload_n (pc' := 67) rfl rfl dX9_lack_66 ?_
        refine j_getf (pc' := 70) fg_RX9_40 (hp_e rfl) rfl rfl dX9_lack_67 ?_
        refine j_iload (pc' := 72) rfl rfl dX9_lack_70 ?_
        obtain ⟨g7, hk⟩ := of_ite hk
        refine j_iald (pc' := 73) (hp_e rfl) (inR_in g7) rfl dX9_lack_72 ?_
        refine j_dup2 (pc' := 74) rfl rfl rfl dX9_lack_73 ?_
        obtain ⟨g8, hk⟩ := of_ite hk
        refine j_iald (pc' := 75) (hp_e rfl) (inR_in g8) rfl dX9_lack_74 ?_
        refine j_iconst (pc' := 76) (v := 1) rfl rfl dX9_lack_75 ?_
        refine j_iadd (pc' := 77) rfl dX9_lack_76 ?_
        obtain ⟨g9, hk⟩ := of_ite hk
        refine j_si (pc' := 78) (fun _ _ _ => rfl) (inR_in g9) rfl dX9_lack_77 ?_
        refine j_iinc (pc' := 81) (v := x4 + 1) rfl rfl (lt_b rfl) rfl rfl dX9_lack_78 ?_
        refine j_iinc (pc' := 84) (v := x5 + 1) rfl rfl (lt_b rfl) rfl rfl dX9_lack_81 ?_
        refine j_goto (tg := 34) rfl dX9_lack_84 ?_
        obtain rfl := Option.some.inj hk
        exact hc _ _ _ rfl _ _
      · have hk := (if_pos c10).symm.trans hk
        refine j_goto (tg := 81) rfl dX9_lack_59 ?_
        refine j_iinc (pc' := 84) (v := x5 + 1) rfl rfl (lt_b rfl) rfl rfl dX9_lack_81 ?_
        refine j_goto (tg := 34) rfl dX9_lack_84 ?_
        obtain rfl := Option.some.inj hk
        exact hc _ _ _ rfl _ _
theorem lM_lack_s34 {x1 : Int32} {x2 : Int32} {x3 : Int32} : ∀ (n : Nat) (x4 : Int32) (x5 : Int32) (σ : Mem) (e : (Int32 × Mem)), loopF n (kM_lack_s34 x1 x2 x3) (x4, x5, σ) = some e → (∀ (z4 : Int32) (ς : Mem), e = (z4, ς) → ∀ (o1 o3 o5 o6 o7 : Option AV), J l D dA H0 YM_lack h0 Po 0 0 (hp ς) 87 [some (vR (some (30, 0))), o1, some (vI x2), o3, some (vI z4), o5, o6, o7] []) → ∀ (o6 o7 : Option AV), J l D dA H0 YM_lack h0 Po 0 0 (hp σ) 34 [some (vR (some (30, 0))), some (vI x1), some (vI x2), some (vI x3), some (vI x4), some (vI x5), o6, o7] []
  | 0, x4, x5, σ, e, he => by cases he
  | n + 1, x4, x5, σ, e, he => by
    intro hx0 o6 o7
    rcases loopF_succ he with ⟨s', h1, h2⟩ | h1
    · refine qM_lack_s34 h1 ?_ ?_
      · intro z4 z5 ς ee
        cases ee
        exact lM_lack_s34 n z4 z5 ς e h2 hx0
      · intro z4 ς ee
        cases ee
    · refine qM_lack_s34 h1 ?_ ?_
      · intro z4 z5 ς ee
        cases ee
      · intro z4 ς ee
        exact hx0 z4 ς (Sum.inr.inj ee)
theorem qM_lack_s111 {σ : Mem} {x4 : Int32} {x5 : Int32} {x6 : Int32} {o1 : Option AV} {o2 : Option AV} {o3 : Option AV} {o7 : Option AV} {out : (Int32 × Int32 × Mem) ⊕ (Int32 × Mem)} (hk : kM_lack_s111 x4 (x5, x6, σ) = some out) (hc : ∀ (z5 : Int32) (z6 : Int32) (ς : Mem), out = .inl (z5, z6, ς) → ∀ (o1 o2 o3 o7 : Option AV), J l D dA H0 YM_lack h0 Po 0 0 (hp ς) 111 [some (vR (some (30, 0))), o1, o2, o3, some (vI x4), some (vI z5), some (vI z6), o7] []) (hx0 : ∀ (z5 : Int32) (ς : Mem), out = .inr (z5, ς) → ∀ (o0 o1 o2 o3 o6 o7 : Option AV), J l D dA H0 YM_lack h0 Po 0 0 (hp ς) 147 [o0, o1, o2, o3, some (vI x4), some (vI z5), o6, o7] []) : J l D dA H0 YM_lack h0 Po 0 0 (hp σ) 111 [some (vR (some (30, 0))), o1, o2, o3, some (vI x4), some (vI x5), some (vI x6), o7] [] := by
  unfold kM_lack_s111 at hk
  refine j_iload (pc' := 113) rfl rfl dX9_lack_111 ?_
  refine j_aload_n (pc' := 114) rfl rfl dX9_lack_113 ?_
  refine j_getf (pc' := 117) fg_RX9_73 (hp_e rfl) rfl rfl dX9_lack_114 ?_
  refine j_iconst (pc' := 118) (v := 4) rfl rfl dX9_lack_117 ?_
  obtain ⟨g13, hk⟩ := of_ite hk
  refine j_iald (pc' := 119) (hp_e rfl) (inR_in g13) rfl dX9_lack_118 ?_
  refine j_ic_gt (pc' := 122) (tg := 147) rfl rfl dX9_lack_119 (fun c17 => ?_) (fun c17 => ?_)
  · have hk := (if_pos c17).symm.trans hk
    obtain rfl := Option.some.inj hk
    exact hx0 _ _ rfl _ _ _ _ _ _
  · have hk := (if_neg c17).symm.trans hk
    refine j_aload_n (pc' := 123) rfl rfl dX9_lack_122 ?_
    refine j_iload (pc' := 125) rfl rfl dX9_lack_123 ?_
    obtain ⟨⟨r14, σ15⟩, hx, hk⟩ := of_bind hk
    refine j_cv1 (pc' := 128) (LM_poured hx) cv_RX9_136 ⟨le_b rfl, le_b rfl⟩ (hp_e rfl) rfl rfl (le_b rfl) ⟨rfl, rfl⟩ ⟨le_b rfl, le_b rfl⟩ rfl rfl dX9_lack_125 ?_
    refine j_istore (pc' := 130) (lt_b rfl) rfl rfl dX9_lack_128 ?_
    refine j_iload (pc' := 132) rfl rfl dX9_lack_130 ?_
    refine j_iload (pc' := 134) rfl rfl dX9_lack_132 ?_
    refine j_ic_le (pc' := 137) (tg := 141) rfl rfl dX9_lack_134 (fun c16 => ?_) (fun c16 => ?_)
    · have hk := (if_pos c16).symm.trans hk
      refine j_iinc (pc' := 144) (v := x6 + 1) rfl rfl (lt_b rfl) rfl rfl dX9_lack_141 ?_
      refine j_goto (tg := 111) rfl dX9_lack_144 ?_
      obtain rfl := Option.some.inj hk
      exact hc _ _ _ rfl _ _ _ _
    · have hk := (if_neg c16).symm.trans hk
      refine j_iload (pc' := 139) rfl rfl dX9_lack_137 ?_
      refine j_istore (pc' := 141) (lt_b rfl) rfl rfl dX9_lack_139 ?_
      refine j_iinc (pc' := 144) (v := x6 + 1) rfl rfl (lt_b rfl) rfl rfl dX9_lack_141 ?_
      refine j_goto (tg := 111) rfl dX9_lack_144 ?_
      obtain rfl := Option.some.inj hk
      exact hc _ _ _ rfl _ _ _ _
theorem lM_lack_s111 {x4 : Int32} : ∀ (n : Nat) (x5 : Int32) (x6 : Int32) (σ : Mem) (e : (Int32 × Mem)), loopF n (kM_lack_s111 x4) (x5, x6, σ) = some e → (∀ (z5 : Int32) (ς : Mem), e = (z5, ς) → ∀ (o0 o1 o2 o3 o6 o7 : Option AV), J l D dA H0 YM_lack h0 Po 0 0 (hp ς) 147 [o0, o1, o2, o3, some (vI x4), some (vI z5), o6, o7] []) → ∀ (o1 o2 o3 o7 : Option AV), J l D dA H0 YM_lack h0 Po 0 0 (hp σ) 111 [some (vR (some (30, 0))), o1, o2, o3, some (vI x4), some (vI x5), some (vI x6), o7] []
  | 0, x5, x6, σ, e, he => by cases he
  | n + 1, x5, x6, σ, e, he => by
    intro hx0 o1 o2 o3 o7
    rcases loopF_succ he with ⟨s', h1, h2⟩ | h1
    · refine qM_lack_s111 h1 ?_ ?_
      · intro z5 z6 ς ee
        cases ee
        exact lM_lack_s111 n z5 z6 ς e h2 hx0
      · intro z5 ς ee
        cases ee
    · refine qM_lack_s111 h1 ?_ ?_
      · intro z5 z6 ς ee
        cases ee
      · intro z5 ς ee
        exact hx0 z5 ς (Sum.inr.inj ee)
theorem qM_lack_x147 {σ : Mem} {x4 : Int32} {x5 : Int32} {o0 : Option AV} {o1 : Option AV} {o2 : Option AV} {o3 : Option AV} {o6 : Option AV} {o7 : Option AV} {res : Int32 × Mem} (hk : kM_lack_x147 σ x4 x5 = some res) (hP : Po (some (vI res.1)) (hp res.2)) : J l D dA H0 YM_lack h0 Po 0 0 (hp σ) 147 [o0, o1, o2, o3, some (vI x4), some (vI x5), o6, o7] [] := by
  unfold kM_lack_x147 at hk
  refine j_iload (pc' := 149) rfl rfl dX9_lack_147 ?_
  refine j_iload (pc' := 151) rfl rfl dX9_lack_149 ?_
  refine j_isub (pc' := 152) rfl dX9_lack_151 ?_
  obtain rfl := Option.some.inj hk
  exact j_iret rfl ⟨rfl, rfl⟩ dX9_lack_152 hP
theorem qM_lack_j105 {σ : Mem} {x4 : Int32} {o1 : Option AV} {o2 : Option AV} {o3 : Option AV} {o5 : Option AV} {o6 : Option AV} {o7 : Option AV} {res : Int32 × Mem} (hk : kM_lack_j105 σ x4 = some res) (hP : Po (some (vI res.1)) (hp res.2)) : J l D dA H0 YM_lack h0 Po 0 0 (hp σ) 105 [some (vR (some (30, 0))), o1, o2, o3, some (vI x4), o5, o6, o7] [] := by
  unfold kM_lack_j105 at hk
  refine j_iconst (pc' := 106) (v := 0) rfl rfl dX9_lack_105 ?_
  refine j_istore (pc' := 108) (lt_b rfl) rfl rfl dX9_lack_106 ?_
  refine j_iconst (pc' := 109) (v := 0) rfl rfl dX9_lack_108 ?_
  refine j_istore (pc' := 111) (lt_b rfl) rfl rfl dX9_lack_109 ?_
  obtain ⟨e, he, hk⟩ := of_bind hk
  refine lM_lack_s111 FU _ _ _ e he ?_ _ _ _ _
  · intro z5 ς ee _ _ _ _ _ _
    subst ee
    exact qM_lack_x147 hk hP
theorem qM_lack_x87 {σ : Mem} {x2 : Int32} {x4 : Int32} {o1 : Option AV} {o3 : Option AV} {o5 : Option AV} {o6 : Option AV} {o7 : Option AV} {res : Int32 × Mem} (hk : kM_lack_x87 σ x2 x4 = some res) (hP : Po (some (vI res.1)) (hp res.2)) : J l D dA H0 YM_lack h0 Po 0 0 (hp σ) 87 [some (vR (some (30, 0))), o1, some (vI x2), o3, some (vI x4), o5, o6, o7] [] := by
  unfold kM_lack_x87 at hk
  refine j_iload_n (pc' := 88) rfl rfl dX9_lack_87 ?_
  refine j_iconst (pc' := 89) (v := (-1)) rfl rfl dX9_lack_88 ?_
  refine j_ic_eq (pc' := 92) (tg := 105) rfl rfl dX9_lack_89 (fun c20 => ?_) (fun c20 => ?_)
  · have hk := (if_pos c20).symm.trans hk
    exact qM_lack_j105 hk hP
  · have hk := (if_neg c20).symm.trans hk
    refine j_aload_n (pc' := 93) rfl rfl dX9_lack_92 ?_
    refine j_getf (pc' := 96) fg_RX9_73 (hp_e rfl) rfl rfl dX9_lack_93 ?_
    refine j_iload_n (pc' := 97) rfl rfl dX9_lack_96 ?_
    refine j_dup2 (pc' := 98) rfl rfl rfl dX9_lack_97 ?_
    obtain ⟨g18, hk⟩ := of_ite hk
    refine j_iald (pc' := 99) (hp_e rfl) (inR_in g18) rfl dX9_lack_98 ?_
    refine j_iconst (pc' := 100) (v := 1) rfl rfl dX9_lack_99 ?_
    refine j_iadd (pc' := 101) rfl dX9_lack_100 ?_
    obtain ⟨g19, hk⟩ := of_ite hk
    refine j_si (pc' := 102) (fun _ _ _ => rfl) (inR_in g19) rfl dX9_lack_101 ?_
    refine j_iinc (pc' := 105) (v := x4 + 1) rfl rfl (lt_b rfl) rfl rfl dX9_lack_102 ?_
    exact qM_lack_j105 hk hP
theorem qM_lack_x31 {σ : Mem} {x1 : Int32} {x2 : Int32} {x3 : Int32} {x4 : Int32} {o5 : Option AV} {o6 : Option AV} {o7 : Option AV} {res : Int32 × Mem} (hk : kM_lack_x31 σ x1 x2 x3 x4 = some res) (hP : Po (some (vI res.1)) (hp res.2)) : J l D dA H0 YM_lack h0 Po 0 0 (hp σ) 31 [some (vR (some (30, 0))), some (vI x1), some (vI x2), some (vI x3), some (vI x4), o5, o6, o7] [] := by
  unfold kM_lack_x31 at hk
  refine j_iconst (pc' := 32) (v := 0) rfl rfl dX9_lack_31 ?_
  refine j_istore (pc' := 34) (lt_b rfl) rfl rfl dX9_lack_32 ?_
  obtain ⟨e, he, hk⟩ := of_bind hk
  refine lM_lack_s34 FU _ _ _ e he ?_ _ _
  · intro z4 ς ee _ _ _ _ _
    subst ee
    exact qM_lack_x87 hk hP
theorem qM_lack {σ : Mem} {x1 : Int32} {x2 : Int32} {x3 : Int32} {o4 : Option AV} {o5 : Option AV} {o6 : Option AV} {o7 : Option AV} {res : Int32 × Mem} (hk : kM_lack σ x1 x2 x3 = some res) (hP : Po (some (vI res.1)) (hp res.2)) : J l D dA H0 YM_lack h0 Po 0 0 (hp σ) 0 [some (vR (some (30, 0))), some (vI x1), some (vI x2), some (vI x3), o4, o5, o6, o7] [] := by
  unfold kM_lack at hk
  refine j_aload_n (pc' := 1) rfl rfl dX9_lack_0 ?_
  refine j_iload_n (pc' := 2) rfl rfl dX9_lack_1 ?_
  obtain ⟨⟨_, σ2⟩, hx, hk⟩ := of_bind hk
  refine j_cv0 (pc' := 5) (LM_fresh hx) cv_RX9_140 ⟨le_b rfl, le_b rfl⟩ (hp_e rfl) rfl rfl (le_b rfl) ⟨rfl, rfl⟩ ⟨le_b rfl, le_b rfl⟩ rfl rfl dX9_lack_2 ?_
  refine j_iconst (pc' := 6) (v := 0) rfl rfl dX9_lack_5 ?_
  refine j_istore (pc' := 8) (lt_b rfl) rfl rfl dX9_lack_6 ?_
  refine j_iconst (pc' := 9) (v := 0) rfl rfl dX9_lack_8 ?_
  refine j_istore (pc' := 11) (lt_b rfl) rfl rfl dX9_lack_9 ?_
  obtain ⟨e, he, hk⟩ := of_bind hk
  refine lM_lack_s11 FU _ _ e he ?_ _ _
  · intro ς ee _ _ _
    subst ee
    exact qM_lack_x31 hk hP
theorem LM_lack {σ σ' : Mem} {x1 : Int32} {x2 : Int32} {x3 : Int32} {r : Int32} (hk : kM_lack σ x1 x2 x3 = some (r, σ')) : M l D dA H0 yX9_lack YM_lack [vR (some (30, 0)), vI x1, vI x2, vI x3] (hp σ) (fun x h' => x = some (vI r) ∧ h' = hp σ') :=
  m_of (j := 4) (by decide) rfl (fun hh => by cases hh) ⟨fun _ _ => trivial, rfl⟩ (le_b rfl) (qM_lack hk ⟨rfl, rfl⟩)
theorem qM_keep_s2 {σ : Mem} {x1 : Int32} {x2 : Int32} {x3 : Int32} {out : (Int32 × Mem) ⊕ (Mem)} (hk : kM_keep_s2 x1 x2 (x3, σ) = some out) (hc : ∀ (z3 : Int32) (ς : Mem), out = .inl (z3, ς) → ∀ (_ : Unit), J l D dA H0 YM_keep h0 Po 0 0 (hp ς) 2 [some (vR (some (30, 0))), some (vI x1), some (vI x2), some (vI z3)] []) (hx0 : ∀ (ς : Mem), out = .inr ς → ∀ (o0 o1 o2 o3 : Option AV), J l D dA H0 YM_keep h0 Po 0 0 (hp ς) 87 [o0, o1, o2, o3] []) : J l D dA H0 YM_keep h0 Po 0 0 (hp σ) 2 [some (vR (some (30, 0))), some (vI x1), some (vI x2), some (vI x3)] [] := by
  unfold kM_keep_s2 at hk
  refine j_iload_n (pc' := 3) rfl rfl dX9_keep_2 ?_
  refine j_aload_n (pc' := 4) rfl rfl dX9_keep_3 ?_
  refine j_getf (pc' := 7) fg_RX9_117 (hp_e rfl) rfl rfl dX9_keep_4 ?_
  refine j_ic_ge (pc' := 10) (tg := 87) rfl rfl dX9_keep_7 (fun c17 => ?_) (fun c17 => ?_)
  · have hk := (if_pos c17).symm.trans hk
    obtain rfl := Option.some.inj hk
    exact hx0 _ rfl _ _ _ _
  · have hk := (if_neg c17).symm.trans hk
    refine j_aload_n (pc' := 11) rfl rfl dX9_keep_10 ?_
    refine j_getf (pc' := 14) fg_RX9_37 (hp_e rfl) rfl rfl dX9_keep_11 ?_
    refine j_iload_n (pc' := 15) rfl rfl dX9_keep_14 ?_
    obtain ⟨g1, hk⟩ := of_ite hk
    refine j_iald (pc' := 16) (hp_e rfl) (inR_in g1) rfl dX9_keep_15 ?_
    refine j_iload_n (pc' := 17) rfl rfl dX9_keep_16 ?_
    refine j_ic_ne (pc' := 20) (tg := 81) rfl rfl dX9_keep_17 (fun c16 => ?_) (fun c16 => ?_)
    · have hk := (if_neg c16).symm.trans hk
      refine j_iinc (pc' := 84) (v := x3 + 1) rfl rfl (lt_b rfl) rfl rfl dX9_keep_81 ?_
      refine j_goto (tg := 2) rfl dX9_keep_84 ?_
      obtain rfl := Option.some.inj hk
      exact hc _ _ rfl ()
    · have hk := (if_pos c16).symm.trans hk
      refine j_aload_n (pc' := 21) rfl rfl dX9_keep_20 ?_
      refine j_iload_n (pc' := 22) rfl rfl dX9_keep_21 ?_
      refine j_iload_n (pc' := 23) rfl rfl dX9_keep_22 ?_
      obtain ⟨⟨r2, σ3⟩, hx, hk⟩ := of_bind hk
      refine j_cv1 (pc' := 26) (LM_wants hx) cv_RX9_144 ⟨le_b rfl, le_b rfl⟩ (hp_e rfl) rfl rfl (le_b rfl) ⟨rfl, rfl⟩ ⟨le_b rfl, le_b rfl⟩ rfl rfl dX9_keep_23 ?_
      refine j_if_ne (pc' := 29) (tg := 32) rfl rfl dX9_keep_26 (fun c15 => ?_) (fun c15 => ?_)
      · have hk := (if_neg c15).symm.trans hk
        refine j_aload_n (pc' := 33) rfl rfl dX9_keep_32 ?_
        refine j_getf (pc' := 36) fg_RX9_70 (hp_e rfl) rfl rfl dX9_keep_33 ?_
        refine j_aload_n (pc' := 37) rfl rfl dX9_keep_36 ?_
        refine j_getf (pc' := 40) fg_RX9_40 (hp_e rfl) rfl rfl dX9_keep_37 ?_
        refine j_iload_n (pc' := 41) rfl rfl dX9_keep_40 ?_
        obtain ⟨g4, hk⟩ := of_ite hk
        refine j_iald (pc' := 42) (hp_e rfl) (inR_in g4) rfl dX9_keep_41 ?_
        refine j_dup2 (pc' := 43) rfl rfl rfl dX9_keep_42 ?_
        obtain ⟨g5, hk⟩ := of_ite hk
        refine j_iald (pc' := 44) (hp_e rfl) (inR_in g5) rfl dX9_keep_43 ?_
        refine j_iconst (pc' := 45) (v := 1) rfl rfl dX9_keep_44 ?_
        refine j_iadd (pc' := 46) rfl dX9_keep_45 ?_
        obtain ⟨g6, hk⟩ := of_ite hk
        refine j_si (pc' := 47) (fun _ _ _ => rfl) (inR_in g6) rfl dX9_keep_46 ?_
        refine j_aload_n (pc' := 48) rfl rfl dX9_keep_47 ?_
        refine j_getf (pc' := 51) fg_RX9_76 (hp_e rfl) rfl rfl dX9_keep_48 ?_
        refine j_iload_n (pc' := 52) rfl rfl dX9_keep_51 ?_
        refine j_aload_n (pc' := 53) rfl rfl dX9_keep_52 ?_
        obtain ⟨⟨r7, σ8⟩, hx, hk⟩ := of_bind hk
        refine j_cv1 (pc' := 56) (LM_canAll hx) cv_RX9_147 ⟨le_b rfl, le_b rfl⟩ (hp_e rfl) rfl rfl (le_b rfl) ⟨rfl, rfl⟩ ⟨le_b rfl, le_b rfl⟩ rfl rfl dX9_keep_53 ?_
        obtain ⟨g9, hk⟩ := of_ite hk
        refine j_sz (pc' := 57) (fun _ _ _ => rfl) (inR_in g9) rfl dX9_keep_56 ?_
        refine j_aload_n (pc' := 58) rfl rfl dX9_keep_57 ?_
        refine j_getf (pc' := 61) fg_RX9_76 (hp_e rfl) rfl rfl dX9_keep_58 ?_
        refine j_iload_n (pc' := 62) rfl rfl dX9_keep_61 ?_
        obtain ⟨g10, hk⟩ := of_ite hk
        refine j_bald (pc' := 63) (hp_e rfl) (inR_in g10) rfl dX9_keep_62 ?_
        refine j_if_ne (pc' := 66) (tg := 81) rfl rfl dX9_keep_63 (fun c14 => ?_) (fun c14 => ?_)
        · have hk := (if_neg c14).symm.trans hk
          refine j_iinc (pc' := 84) (v := x3 + 1) rfl rfl (lt_b rfl) rfl rfl dX9_keep_81 ?_
          refine j_goto (tg := 2) rfl dX9_keep_84 ?_
          obtain rfl := Option.some.inj hk
          exact hc _ _ rfl ()
        · have hk := (if_pos c14).symm.trans hk
          refine j_aload_n (pc' := 67) rfl rfl dX9_keep_66 ?_
          refine j_getf (pc' := 70) fg_RX9_70 (hp_e rfl) rfl rfl dX9_keep_67 ?_
          refine j_aload_n (pc' := 71) rfl rfl dX9_keep_70 ?_
          refine j_getf (pc' := 74) fg_RX9_40 (hp_e rfl) rfl rfl dX9_keep_71 ?_
          refine j_iload_n (pc' := 75) rfl rfl dX9_keep_74 ?_
          obtain ⟨g11, hk⟩ := of_ite hk
          refine j_iald (pc' := 76) (hp_e rfl) (inR_in g11) rfl dX9_keep_75 ?_
          refine j_dup2 (pc' := 77) rfl rfl rfl dX9_keep_76 ?_
          obtain ⟨g12, hk⟩ := of_ite hk
          refine j_iald (pc' := 78) (hp_e rfl) (inR_in g12) rfl dX9_keep_77 ?_
          refine j_iconst (pc' := 79) (v := 1) rfl rfl dX9_keep_78 ?_
          refine j_isub (pc' := 80) rfl dX9_keep_79 ?_
          obtain ⟨g13, hk⟩ := of_ite hk
          refine j_si (pc' := 81) (fun _ _ _ => rfl) (inR_in g13) rfl dX9_keep_80 ?_
          refine j_iinc (pc' := 84) (v := x3 + 1) rfl rfl (lt_b rfl) rfl rfl dX9_keep_81 ?_
          refine j_goto (tg := 2) rfl dX9_keep_84 ?_
          obtain rfl := Option.some.inj hk
          exact hc _ _ rfl ()
      · have hk := (if_pos c15).symm.trans hk
        refine j_goto (tg := 81) rfl dX9_keep_29 ?_
        refine j_iinc (pc' := 84) (v := x3 + 1) rfl rfl (lt_b rfl) rfl rfl dX9_keep_81 ?_
        refine j_goto (tg := 2) rfl dX9_keep_84 ?_
        obtain rfl := Option.some.inj hk
        exact hc _ _ rfl ()
theorem lM_keep_s2 {x1 : Int32} {x2 : Int32} : ∀ (n : Nat) (x3 : Int32) (σ : Mem) (e : (Mem)), loopF n (kM_keep_s2 x1 x2) (x3, σ) = some e → (∀ (ς : Mem), e = ς → ∀ (o0 o1 o2 o3 : Option AV), J l D dA H0 YM_keep h0 Po 0 0 (hp ς) 87 [o0, o1, o2, o3] []) → ∀ (_ : Unit), J l D dA H0 YM_keep h0 Po 0 0 (hp σ) 2 [some (vR (some (30, 0))), some (vI x1), some (vI x2), some (vI x3)] []
  | 0, x3, σ, e, he => by cases he
  | n + 1, x3, σ, e, he => by
    intro hx0 u
    rcases loopF_succ he with ⟨s', h1, h2⟩ | h1
    · refine qM_keep_s2 h1 ?_ ?_
      · intro z3 ς ee
        cases ee
        exact lM_keep_s2 n z3 ς e h2 hx0
      · intro ς ee
        cases ee
    · refine qM_keep_s2 h1 ?_ ?_
      · intro z3 ς ee
        cases ee
      · intro ς ee
        exact hx0 ς (Sum.inr.inj ee)
theorem qM_keep_x87 {σ : Mem} {o0 : Option AV} {o1 : Option AV} {o2 : Option AV} {o3 : Option AV} {res : Unit × Mem} (hk : kM_keep_x87 σ = some res) (hP : Po none (hp res.2)) : J l D dA H0 YM_keep h0 Po 0 0 (hp σ) 87 [o0, o1, o2, o3] [] := by
  unfold kM_keep_x87 at hk
  obtain rfl := Option.some.inj hk
  exact j_ret rfl ⟨rfl, rfl⟩ dX9_keep_87 hP
theorem qM_keep {σ : Mem} {x1 : Int32} {x2 : Int32} {o3 : Option AV} {res : Unit × Mem} (hk : kM_keep σ x1 x2 = some res) (hP : Po none (hp res.2)) : J l D dA H0 YM_keep h0 Po 0 0 (hp σ) 0 [some (vR (some (30, 0))), some (vI x1), some (vI x2), o3] [] := by
  unfold kM_keep at hk
  refine j_iconst (pc' := 1) (v := 0) rfl rfl dX9_keep_0 ?_
  refine j_istore_n (pc' := 2) (lt_b rfl) rfl rfl dX9_keep_1 ?_
  obtain ⟨e, he, hk⟩ := of_bind hk
  refine lM_keep_s2 FU _ _ e he ?_ ()
  · intro ς ee _ _ _ _
    subst ee
    exact qM_keep_x87 hk hP
theorem LM_keep {σ σ' : Mem} {x1 : Int32} {x2 : Int32} {r : Unit} (hk : kM_keep σ x1 x2 = some (r, σ')) : M l D dA H0 yX9_keep YM_keep [vR (some (30, 0)), vI x1, vI x2] (hp σ) (fun x h' => x = none ∧ h' = hp σ') :=
  m_of (j := 1) (by decide) rfl (fun hh => by cases hh) ⟨fun _ _ => trivial, rfl⟩ (le_b rfl) (qM_keep hk ⟨rfl, rfl⟩)
theorem qM_gives_j242 {σ : Mem} {x3 : Int32} {x4 : Int32} {x5 : Int32} {x6 : Int32} {x8 : Int32} {o1 : Option AV} {o2 : Option AV} {o7 : Option AV} {res : Int32 × Mem} (hk : kM_gives_j242 σ x3 x4 x5 x6 x8 = some res) (hP : Po (some (vI res.1)) (hp res.2)) : J l D dA H0 YM_gives h0 Po 0 0 (hp σ) 242 [some (vR (some (30, 0))), o1, o2, some (vI x3), some (vI x4), some (vI x5), some (vI x6), o7, some (vI x8)] [] := by
  unfold kM_gives_j242 at hk
  refine j_aload_n (pc' := 243) rfl rfl dX9_gives_242 ?_
  refine j_getf (pc' := 246) fg_RX9_70 (hp_e rfl) rfl rfl dX9_gives_243 ?_
  refine j_iload (pc' := 248) rfl rfl dX9_gives_246 ?_
  refine j_dup2 (pc' := 249) rfl rfl rfl dX9_gives_248 ?_
  obtain ⟨g11, hk⟩ := of_ite hk
  refine j_iald (pc' := 250) (hp_e rfl) (inR_in g11) rfl dX9_gives_249 ?_
  refine j_iconst (pc' := 251) (v := 1) rfl rfl dX9_gives_250 ?_
  refine j_isub (pc' := 252) rfl dX9_gives_251 ?_
  obtain ⟨g12, hk⟩ := of_ite hk
  refine j_si (pc' := 253) (fun _ _ _ => rfl) (inR_in g12) rfl dX9_gives_252 ?_
  refine j_aload_n (pc' := 254) rfl rfl dX9_gives_253 ?_
  obtain ⟨⟨r13, σ14⟩, hx, hk⟩ := of_bind hk
  refine j_cv1 (pc' := 257) (LM_canAll hx) cv_RX9_147 ⟨le_b rfl, le_b rfl⟩ (hp_e rfl) rfl rfl (le_b rfl) ⟨rfl, rfl⟩ ⟨le_b rfl, le_b rfl⟩ rfl rfl dX9_gives_254 ?_
  refine j_if_eq (pc' := 260) (tg := 262) rfl rfl dX9_gives_257 (fun c21 => ?_) (fun c21 => ?_)
  · have hk := (if_pos c21).symm.trans hk
    refine j_aload_n (pc' := 263) rfl rfl dX9_gives_262 ?_
    refine j_getf (pc' := 266) fg_RX9_70 (hp_e rfl) rfl rfl dX9_gives_263 ?_
    refine j_iload (pc' := 268) rfl rfl dX9_gives_266 ?_
    refine j_dup2 (pc' := 269) rfl rfl rfl dX9_gives_268 ?_
    obtain ⟨g15, hk⟩ := of_ite hk
    refine j_iald (pc' := 270) (hp_e rfl) (inR_in g15) rfl dX9_gives_269 ?_
    refine j_iconst (pc' := 271) (v := 1) rfl rfl dX9_gives_270 ?_
    refine j_iadd (pc' := 272) rfl dX9_gives_271 ?_
    obtain ⟨g16, hk⟩ := of_ite hk
    refine j_si (pc' := 273) (fun _ _ _ => rfl) (inR_in g16) rfl dX9_gives_272 ?_
    refine j_aload_n (pc' := 274) rfl rfl dX9_gives_273 ?_
    refine j_getf (pc' := 277) fg_RX9_67 (hp_e rfl) rfl rfl dX9_gives_274 ?_
    refine j_iload_n (pc' := 278) rfl rfl dX9_gives_277 ?_
    refine j_dup2 (pc' := 279) rfl rfl rfl dX9_gives_278 ?_
    obtain ⟨g17, hk⟩ := of_ite hk
    refine j_iald (pc' := 280) (hp_e rfl) (inR_in g17) rfl dX9_gives_279 ?_
    refine j_iconst (pc' := 281) (v := 1) rfl rfl dX9_gives_280 ?_
    refine j_iload (pc' := 283) rfl rfl dX9_gives_281 ?_
    refine j_ishl (pc' := 284) rfl dX9_gives_283 ?_
    refine j_iconst (pc' := 285) (v := (-1)) rfl rfl dX9_gives_284 ?_
    refine j_ixor (pc' := 286) rfl dX9_gives_285 ?_
    refine j_iand (pc' := 287) rfl dX9_gives_286 ?_
    obtain ⟨g18, hk⟩ := of_ite hk
    refine j_si (pc' := 288) (fun _ _ _ => rfl) (inR_in g18) rfl dX9_gives_287 ?_
    refine j_iload (pc' := 290) rfl rfl dX9_gives_288 ?_
    refine j_if_eq (pc' := 293) (tg := 301) rfl rfl dX9_gives_290 (fun c20 => ?_) (fun c20 => ?_)
    · have hk := (if_pos c20).symm.trans hk
      refine j_iconst (pc' := 302) (v := 0) rfl rfl dX9_gives_301 ?_
      obtain rfl := Option.some.inj hk
      exact j_zret rfl rfl ⟨rfl, rfl⟩ dX9_gives_302 hP
    · have hk := (if_neg c20).symm.trans hk
      refine j_aload_n (pc' := 294) rfl rfl dX9_gives_293 ?_
      refine j_getf (pc' := 297) fg_RX9_67 (hp_e rfl) rfl rfl dX9_gives_294 ?_
      refine j_iload (pc' := 299) rfl rfl dX9_gives_297 ?_
      refine j_iconst (pc' := 300) (v := 0) rfl rfl dX9_gives_299 ?_
      obtain ⟨g19, hk⟩ := of_ite hk
      refine j_si (pc' := 301) (fun _ _ _ => rfl) (inR_in g19) rfl dX9_gives_300 ?_
      refine j_iconst (pc' := 302) (v := 0) rfl rfl dX9_gives_301 ?_
      obtain rfl := Option.some.inj hk
      exact j_zret rfl rfl ⟨rfl, rfl⟩ dX9_gives_302 hP
  · have hk := (if_neg c21).symm.trans hk
    refine j_iconst (pc' := 261) (v := 1) rfl rfl dX9_gives_260 ?_
    obtain rfl := Option.some.inj hk
    exact j_zret rfl rfl ⟨rfl, rfl⟩ dX9_gives_261 hP
theorem qM_gives_j216 {σ : Mem} {x3 : Int32} {x4 : Int32} {x5 : Int32} {x6 : Int32} {x8 : Int32} {o1 : Option AV} {o2 : Option AV} {o7 : Option AV} {res : Int32 × Mem} (hk : kM_gives_j216 σ x3 x4 x5 x6 x8 = some res) (hP : Po (some (vI res.1)) (hp res.2)) : J l D dA H0 YM_gives h0 Po 0 0 (hp σ) 216 [some (vR (some (30, 0))), o1, o2, some (vI x3), some (vI x4), some (vI x5), some (vI x6), o7, some (vI x8)] [] := by
  unfold kM_gives_j216 at hk
  refine j_aload_n (pc' := 217) rfl rfl dX9_gives_216 ?_
  refine j_getf (pc' := 220) fg_RX9_67 (hp_e rfl) rfl rfl dX9_gives_217 ?_
  refine j_iload_n (pc' := 221) rfl rfl dX9_gives_220 ?_
  refine j_dup2 (pc' := 222) rfl rfl rfl dX9_gives_221 ?_
  obtain ⟨g9, hk⟩ := of_ite hk
  refine j_iald (pc' := 223) (hp_e rfl) (inR_in g9) rfl dX9_gives_222 ?_
  refine j_iconst (pc' := 224) (v := 1) rfl rfl dX9_gives_223 ?_
  refine j_iload (pc' := 226) rfl rfl dX9_gives_224 ?_
  refine j_ishl (pc' := 227) rfl dX9_gives_226 ?_
  refine j_ior (pc' := 228) rfl dX9_gives_227 ?_
  obtain ⟨g10, hk⟩ := of_ite hk
  refine j_si (pc' := 229) (fun _ _ _ => rfl) (inR_in g10) rfl dX9_gives_228 ?_
  refine j_iload (pc' := 231) rfl rfl dX9_gives_229 ?_
  refine j_if_eq (pc' := 234) (tg := 242) rfl rfl dX9_gives_231 (fun c23 => ?_) (fun c23 => ?_)
  · have hk := (if_pos c23).symm.trans hk
    exact qM_gives_j242 hk hP
  · have hk := (if_neg c23).symm.trans hk
    refine j_aload_n (pc' := 235) rfl rfl dX9_gives_234 ?_
    refine j_getf (pc' := 238) fg_RX9_67 (hp_e rfl) rfl rfl dX9_gives_235 ?_
    refine j_iload (pc' := 240) rfl rfl dX9_gives_238 ?_
    refine j_iconst (pc' := 241) (v := 1) rfl rfl dX9_gives_240 ?_
    obtain ⟨g22, hk⟩ := of_ite hk
    refine j_si (pc' := 242) (fun _ _ _ => rfl) (inR_in g22) rfl dX9_gives_241 ?_
    exact qM_gives_j242 hk hP
theorem qM_gives_j180 {σ : Mem} {x3 : Int32} {x4 : Int32} {x5 : Int32} {x6 : Int32} {x7 : Int32} {o1 : Option AV} {o2 : Option AV} {o8 : Option AV} {res : Int32 × Mem} (hk : kM_gives_j180 σ x3 x4 x5 x6 x7 = some res) (hP : Po (some (vI res.1)) (hp res.2)) : J l D dA H0 YM_gives h0 Po 0 0 (hp σ) 180 [some (vR (some (30, 0))), o1, o2, some (vI x3), some (vI x4), some (vI x5), some (vI x6), some (vI x7), o8] [] := by
  unfold kM_gives_j180 at hk
  refine j_aload_n (pc' := 181) rfl rfl dX9_gives_180 ?_
  refine j_getf (pc' := 184) fg_RX9_23 (hp_e rfl) rfl rfl dX9_gives_181 ?_
  refine j_iload_n (pc' := 185) rfl rfl dX9_gives_184 ?_
  obtain ⟨g8, hk⟩ := of_ite hk
  refine j_iald (pc' := 186) (hp_e rfl) (inR_in g8) rfl dX9_gives_185 ?_
  refine j_istore (pc' := 188) (lt_b rfl) rfl rfl dX9_gives_186 ?_
  refine j_iload (pc' := 190) rfl rfl dX9_gives_188 ?_
  refine j_if_eq (pc' := 193) (tg := 216) rfl rfl dX9_gives_190 (fun c29 => ?_) (fun c29 => ?_)
  · have hk := (if_pos c29).symm.trans hk
    exact qM_gives_j216 hk hP
  · have hk := (if_neg c29).symm.trans hk
    refine j_iload (pc' := 195) rfl rfl dX9_gives_193 ?_
    refine j_iconst (pc' := 196) (v := 1) rfl rfl dX9_gives_195 ?_
    refine j_ic_ne (pc' := 199) (tg := 214) rfl rfl dX9_gives_196 (fun c28 => ?_) (fun c28 => ?_)
    · have hk := (if_neg c28).symm.trans hk
      refine j_iconst (pc' := 215) (v := 0) rfl rfl dX9_gives_214 ?_
      obtain rfl := Option.some.inj hk
      exact j_zret rfl rfl ⟨rfl, rfl⟩ dX9_gives_215 hP
    · have hk := (if_pos c28).symm.trans hk
      refine j_iload (pc' := 201) rfl rfl dX9_gives_199 ?_
      refine j_iload_n (pc' := 202) rfl rfl dX9_gives_201 ?_
      refine j_ic_lt (pc' := 205) (tg := 214) rfl rfl dX9_gives_202 (fun c27 => ?_) (fun c27 => ?_)
      · have hk := (if_pos c27).symm.trans hk
        refine j_iconst (pc' := 215) (v := 0) rfl rfl dX9_gives_214 ?_
        obtain rfl := Option.some.inj hk
        exact j_zret rfl rfl ⟨rfl, rfl⟩ dX9_gives_215 hP
      · have hk := (if_neg c27).symm.trans hk
        refine j_aload_n (pc' := 206) rfl rfl dX9_gives_205 ?_
        refine j_iload (pc' := 208) rfl rfl dX9_gives_206 ?_
        obtain ⟨⟨r24, σ25⟩, hx, hk⟩ := of_bind hk
        refine j_cv1 (pc' := 211) (LM_isFree hx) cv_RX9_129 ⟨le_b rfl, le_b rfl⟩ (hp_e rfl) rfl rfl (le_b rfl) ⟨rfl, rfl⟩ ⟨le_b rfl, le_b rfl⟩ rfl rfl dX9_gives_208 ?_
        refine j_if_ne (pc' := 214) (tg := 216) rfl rfl dX9_gives_211 (fun c26 => ?_) (fun c26 => ?_)
        · have hk := (if_neg c26).symm.trans hk
          exact qM_gives_j216 hk hP
        · have hk := (if_pos c26).symm.trans hk
          refine j_iconst (pc' := 215) (v := 0) rfl rfl dX9_gives_214 ?_
          obtain rfl := Option.some.inj hk
          exact j_zret rfl rfl ⟨rfl, rfl⟩ dX9_gives_215 hP
theorem qM_gives_j166 {σ : Mem} {x3 : Int32} {x4 : Int32} {x5 : Int32} {x6 : Int32} {x7 : Int32} {o1 : Option AV} {o2 : Option AV} {o8 : Option AV} {res : Int32 × Mem} (hk : kM_gives_j166 σ x3 x4 x5 x6 x7 = some res) (hP : Po (some (vI res.1)) (hp res.2)) : J l D dA H0 YM_gives h0 Po 0 0 (hp σ) 166 [some (vR (some (30, 0))), o1, o2, some (vI x3), some (vI x4), some (vI x5), some (vI x6), some (vI x7), o8] [] := by
  unfold kM_gives_j166 at hk
  refine j_iload (pc' := 168) rfl rfl dX9_gives_166 ?_
  refine j_iconst (pc' := 169) (v := 3) rfl rfl dX9_gives_168 ?_
  refine j_ic_ne (pc' := 172) (tg := 180) rfl rfl dX9_gives_169 (fun c31 => ?_) (fun c31 => ?_)
  · have hk := (if_neg c31).symm.trans hk
    exact qM_gives_j180 hk hP
  · have hk := (if_pos c31).symm.trans hk
    refine j_iload (pc' := 174) rfl rfl dX9_gives_172 ?_
    refine j_iconst (pc' := 175) (v := 2) rfl rfl dX9_gives_174 ?_
    refine j_ic_eq (pc' := 178) (tg := 180) rfl rfl dX9_gives_175 (fun c30 => ?_) (fun c30 => ?_)
    · have hk := (if_pos c30).symm.trans hk
      exact qM_gives_j180 hk hP
    · have hk := (if_neg c30).symm.trans hk
      refine j_iconst (pc' := 179) (v := 0) rfl rfl dX9_gives_178 ?_
      obtain rfl := Option.some.inj hk
      exact j_zret rfl rfl ⟨rfl, rfl⟩ dX9_gives_179 hP
theorem qM_gives_j155 {σ : Mem} {x3 : Int32} {x4 : Int32} {x5 : Int32} {x6 : Int32} {x7 : Int32} {o1 : Option AV} {o2 : Option AV} {o8 : Option AV} {res : Int32 × Mem} (hk : kM_gives_j155 σ x3 x4 x5 x6 x7 = some res) (hP : Po (some (vI res.1)) (hp res.2)) : J l D dA H0 YM_gives h0 Po 0 0 (hp σ) 155 [some (vR (some (30, 0))), o1, o2, some (vI x3), some (vI x4), some (vI x5), some (vI x6), some (vI x7), o8] [] := by
  unfold kM_gives_j155 at hk
  refine j_iload (pc' := 157) rfl rfl dX9_gives_155 ?_
  refine j_iconst (pc' := 158) (v := 2) rfl rfl dX9_gives_157 ?_
  refine j_ic_ne (pc' := 161) (tg := 166) rfl rfl dX9_gives_158 (fun c33 => ?_) (fun c33 => ?_)
  · have hk := (if_neg c33).symm.trans hk
    exact qM_gives_j166 hk hP
  · have hk := (if_pos c33).symm.trans hk
    refine j_iload (pc' := 163) rfl rfl dX9_gives_161 ?_
    refine j_if_eq (pc' := 166) (tg := 178) rfl rfl dX9_gives_163 (fun c32 => ?_) (fun c32 => ?_)
    · have hk := (if_pos c32).symm.trans hk
      refine j_iconst (pc' := 179) (v := 0) rfl rfl dX9_gives_178 ?_
      obtain rfl := Option.some.inj hk
      exact j_zret rfl rfl ⟨rfl, rfl⟩ dX9_gives_179 hP
    · have hk := (if_neg c32).symm.trans hk
      exact qM_gives_j166 hk hP
theorem qM_gives_j100 {σ : Mem} {x3 : Int32} {x4 : Int32} {x5 : Int32} {x6 : Int32} {x7 : Int32} {y0 : Int32} {y1 : Int32} {o1 : Option AV} {o2 : Option AV} {o8 : Option AV} {res : Int32 × Mem} (hk : kM_gives_j100 σ x3 x4 x5 x6 x7 y0 y1 = some res) (hP : Po (some (vI res.1)) (hp res.2)) : J l D dA H0 YM_gives h0 Po 0 0 (hp σ) 100 [some (vR (some (30, 0))), o1, o2, some (vI x3), some (vI x4), some (vI x5), some (vI x6), some (vI x7), o8] [vI y0, vI y1] := by
  unfold kM_gives_j100 at hk
  refine j_ic_eq (pc' := 103) (tg := 105) rfl rfl dX9_gives_100 (fun c41 => ?_) (fun c41 => ?_)
  · have hk := (if_pos c41).symm.trans hk
    refine j_iload (pc' := 107) rfl rfl dX9_gives_105 ?_
    refine j_iconst (pc' := 108) (v := 3) rfl rfl dX9_gives_107 ?_
    refine j_ic_ne (pc' := 111) (tg := 139) rfl rfl dX9_gives_108 (fun c40 => ?_) (fun c40 => ?_)
    · have hk := (if_neg c40).symm.trans hk
      refine j_aload_n (pc' := 140) rfl rfl dX9_gives_139 ?_
      refine j_getf (pc' := 143) fg_RX9_67 (hp_e rfl) rfl rfl dX9_gives_140 ?_
      refine j_iload_n (pc' := 144) rfl rfl dX9_gives_143 ?_
      obtain ⟨g7, hk⟩ := of_ite hk
      refine j_iald (pc' := 145) (hp_e rfl) (inR_in g7) rfl dX9_gives_144 ?_
      refine j_if_ne (pc' := 148) (tg := 153) rfl rfl dX9_gives_145 (fun c35 => ?_) (fun c35 => ?_)
      · have hk := (if_neg c35).symm.trans hk
        refine j_iconst (pc' := 154) (v := 0) rfl rfl dX9_gives_153 ?_
        obtain rfl := Option.some.inj hk
        exact j_zret rfl rfl ⟨rfl, rfl⟩ dX9_gives_154 hP
      · have hk := (if_pos c35).symm.trans hk
        refine j_iload (pc' := 150) rfl rfl dX9_gives_148 ?_
        refine j_if_le (pc' := 153) (tg := 155) rfl rfl dX9_gives_150 (fun c34 => ?_) (fun c34 => ?_)
        · have hk := (if_pos c34).symm.trans hk
          exact qM_gives_j155 hk hP
        · have hk := (if_neg c34).symm.trans hk
          refine j_iconst (pc' := 154) (v := 0) rfl rfl dX9_gives_153 ?_
          obtain rfl := Option.some.inj hk
          exact j_zret rfl rfl ⟨rfl, rfl⟩ dX9_gives_154 hP
    · have hk := (if_pos c40).symm.trans hk
      refine j_iload (pc' := 113) rfl rfl dX9_gives_111 ?_
      refine j_aload_n (pc' := 114) rfl rfl dX9_gives_113 ?_
      refine j_getf (pc' := 117) fg_RX9_20 (hp_e rfl) rfl rfl dX9_gives_114 ?_
      refine j_iload_n (pc' := 118) rfl rfl dX9_gives_117 ?_
      obtain ⟨g36, hk⟩ := of_ite hk
      refine j_iald (pc' := 119) (hp_e rfl) (inR_in g36) rfl dX9_gives_118 ?_
      refine j_ic_ge (pc' := 122) (tg := 137) rfl rfl dX9_gives_119 (fun c39 => ?_) (fun c39 => ?_)
      · have hk := (if_pos c39).symm.trans hk
        refine j_iconst (pc' := 138) (v := 0) rfl rfl dX9_gives_137 ?_
        obtain rfl := Option.some.inj hk
        exact j_zret rfl rfl ⟨rfl, rfl⟩ dX9_gives_138 hP
      · have hk := (if_neg c39).symm.trans hk
        refine j_aload_n (pc' := 123) rfl rfl dX9_gives_122 ?_
        refine j_getf (pc' := 126) fg_RX9_67 (hp_e rfl) rfl rfl dX9_gives_123 ?_
        refine j_iload_n (pc' := 127) rfl rfl dX9_gives_126 ?_
        obtain ⟨g37, hk⟩ := of_ite hk
        refine j_iald (pc' := 128) (hp_e rfl) (inR_in g37) rfl dX9_gives_127 ?_
        refine j_iload (pc' := 130) rfl rfl dX9_gives_128 ?_
        refine j_ishr (pc' := 131) rfl dX9_gives_130 ?_
        refine j_iconst (pc' := 132) (v := 1) rfl rfl dX9_gives_131 ?_
        refine j_iand (pc' := 133) rfl dX9_gives_132 ?_
        refine j_iconst (pc' := 134) (v := 1) rfl rfl dX9_gives_133 ?_
        refine j_ic_ne (pc' := 137) (tg := 155) rfl rfl dX9_gives_134 (fun c38 => ?_) (fun c38 => ?_)
        · have hk := (if_neg c38).symm.trans hk
          exact qM_gives_j155 hk hP
        · have hk := (if_pos c38).symm.trans hk
          refine j_iconst (pc' := 138) (v := 0) rfl rfl dX9_gives_137 ?_
          obtain rfl := Option.some.inj hk
          exact j_zret rfl rfl ⟨rfl, rfl⟩ dX9_gives_138 hP
  · have hk := (if_neg c41).symm.trans hk
    refine j_iconst (pc' := 104) (v := 0) rfl rfl dX9_gives_103 ?_
    obtain rfl := Option.some.inj hk
    exact j_zret rfl rfl ⟨rfl, rfl⟩ dX9_gives_104 hP
theorem qM_gives_j90 {σ : Mem} {x3 : Int32} {x4 : Int32} {x5 : Int32} {x6 : Int32} {x7 : Int32} {y0 : Int32} {o1 : Option AV} {o2 : Option AV} {o8 : Option AV} {res : Int32 × Mem} (hk : kM_gives_j90 σ x3 x4 x5 x6 x7 y0 = some res) (hP : Po (some (vI res.1)) (hp res.2)) : J l D dA H0 YM_gives h0 Po 0 0 (hp σ) 90 [some (vR (some (30, 0))), o1, o2, some (vI x3), some (vI x4), some (vI x5), some (vI x6), some (vI x7), o8] [vI y0] := by
  unfold kM_gives_j90 at hk
  refine j_iload (pc' := 92) rfl rfl dX9_gives_90 ?_
  refine j_if_ne (pc' := 95) (tg := 99) rfl rfl dX9_gives_92 (fun c42 => ?_) (fun c42 => ?_)
  · have hk := (if_neg c42).symm.trans hk
    refine j_iconst (pc' := 100) (v := 0) rfl rfl dX9_gives_99 ?_
    exact qM_gives_j100 hk hP
  · have hk := (if_pos c42).symm.trans hk
    refine j_iconst (pc' := 96) (v := 1) rfl rfl dX9_gives_95 ?_
    refine j_goto (tg := 100) rfl dX9_gives_96 ?_
    exact qM_gives_j100 hk hP
theorem qM_gives_j76 {σ : Mem} {x3 : Int32} {x4 : Int32} {x5 : Int32} {x6 : Int32} {x7 : Int32} {y0 : Int32} {y1 : Int32} {o1 : Option AV} {o2 : Option AV} {o8 : Option AV} {res : Int32 × Mem} (hk : kM_gives_j76 σ x3 x4 x5 x6 x7 y0 y1 = some res) (hP : Po (some (vI res.1)) (hp res.2)) : J l D dA H0 YM_gives h0 Po 0 0 (hp σ) 76 [some (vR (some (30, 0))), o1, o2, some (vI x3), some (vI x4), some (vI x5), some (vI x6), some (vI x7), o8] [vI y0, vI y1] := by
  unfold kM_gives_j76 at hk
  refine j_ic_ne (pc' := 79) (tg := 103) rfl rfl dX9_gives_76 (fun c44 => ?_) (fun c44 => ?_)
  · have hk := (if_neg c44).symm.trans hk
    refine j_iconst (pc' := 104) (v := 0) rfl rfl dX9_gives_103 ?_
    obtain rfl := Option.some.inj hk
    exact j_zret rfl rfl ⟨rfl, rfl⟩ dX9_gives_104 hP
  · have hk := (if_pos c44).symm.trans hk
    refine j_iload (pc' := 81) rfl rfl dX9_gives_79 ?_
    refine j_iconst (pc' := 82) (v := 3) rfl rfl dX9_gives_81 ?_
    refine j_ic_ne (pc' := 85) (tg := 89) rfl rfl dX9_gives_82 (fun c43 => ?_) (fun c43 => ?_)
    · have hk := (if_neg c43).symm.trans hk
      refine j_iconst (pc' := 90) (v := 0) rfl rfl dX9_gives_89 ?_
      exact qM_gives_j90 hk hP
    · have hk := (if_pos c43).symm.trans hk
      refine j_iconst (pc' := 86) (v := 1) rfl rfl dX9_gives_85 ?_
      refine j_goto (tg := 90) rfl dX9_gives_86 ?_
      exact qM_gives_j90 hk hP
theorem qM_gives_j25 {σ : Mem} {x1 : Int32} {x3 : Int32} {x4 : Int32} {y0 : Int32} {o2 : Option AV} {o5 : Option AV} {o6 : Option AV} {o7 : Option AV} {o8 : Option AV} {res : Int32 × Mem} (hk : kM_gives_j25 σ x1 x3 x4 y0 = some res) (hP : Po (some (vI res.1)) (hp res.2)) : J l D dA H0 YM_gives h0 Po 0 0 (hp σ) 25 [some (vR (some (30, 0))), some (vI x1), o2, some (vI x3), some (vI x4), o5, o6, o7, o8] [vI y0] := by
  unfold kM_gives_j25 at hk
  refine j_istore (pc' := 27) (lt_b rfl) rfl rfl dX9_gives_25 ?_
  refine j_aload_n (pc' := 28) rfl rfl dX9_gives_27 ?_
  refine j_getf (pc' := 31) fg_RX9_40 (hp_e rfl) rfl rfl dX9_gives_28 ?_
  refine j_iload_n (pc' := 32) rfl rfl dX9_gives_31 ?_
  obtain ⟨g1, hk⟩ := of_ite hk
  refine j_iald (pc' := 33) (hp_e rfl) (inR_in g1) rfl dX9_gives_32 ?_
  refine j_istore (pc' := 35) (lt_b rfl) rfl rfl dX9_gives_33 ?_
  refine j_aload_n (pc' := 36) rfl rfl dX9_gives_35 ?_
  refine j_getf (pc' := 39) fg_RX9_13 (hp_e rfl) rfl rfl dX9_gives_36 ?_
  refine j_iload_n (pc' := 40) rfl rfl dX9_gives_39 ?_
  obtain ⟨g2, hk⟩ := of_ite hk
  refine j_iald (pc' := 41) (hp_e rfl) (inR_in g2) rfl dX9_gives_40 ?_
  refine j_istore (pc' := 43) (lt_b rfl) rfl rfl dX9_gives_41 ?_
  refine j_aload_n (pc' := 44) rfl rfl dX9_gives_43 ?_
  refine j_iload_n (pc' := 45) rfl rfl dX9_gives_44 ?_
  obtain ⟨⟨r3, σ4⟩, hx, hk⟩ := of_bind hk
  refine j_cv1 (pc' := 48) (LM_isRoom hx) cv_RX9_107 ⟨le_b rfl, le_b rfl⟩ (hp_e rfl) rfl rfl (le_b rfl) ⟨rfl, rfl⟩ ⟨le_b rfl, le_b rfl⟩ rfl rfl dX9_gives_45 ?_
  refine j_if_eq (pc' := 51) (tg := 103) rfl rfl dX9_gives_48 (fun c47 => ?_) (fun c47 => ?_)
  · have hk := (if_pos c47).symm.trans hk
    refine j_iconst (pc' := 104) (v := 0) rfl rfl dX9_gives_103 ?_
    obtain rfl := Option.some.inj hk
    exact j_zret rfl rfl ⟨rfl, rfl⟩ dX9_gives_104 hP
  · have hk := (if_neg c47).symm.trans hk
    refine j_aload_n (pc' := 52) rfl rfl dX9_gives_51 ?_
    refine j_iload_n (pc' := 53) rfl rfl dX9_gives_52 ?_
    refine j_aload_n (pc' := 54) rfl rfl dX9_gives_53 ?_
    refine j_getf (pc' := 57) fg_RX9_123 (hp_e rfl) rfl rfl dX9_gives_54 ?_
    obtain ⟨⟨r5, σ6⟩, hx, hk⟩ := of_bind hk
    refine j_cv1 (pc' := 60) (LM_isOpen hx) cv_RX9_126 ⟨le_b rfl, le_b rfl⟩ (hp_e rfl) rfl rfl (le_b rfl) ⟨rfl, rfl⟩ ⟨le_b rfl, le_b rfl⟩ rfl rfl dX9_gives_57 ?_
    refine j_if_eq (pc' := 63) (tg := 103) rfl rfl dX9_gives_60 (fun c46 => ?_) (fun c46 => ?_)
    · have hk := (if_pos c46).symm.trans hk
      refine j_iconst (pc' := 104) (v := 0) rfl rfl dX9_gives_103 ?_
      obtain rfl := Option.some.inj hk
      exact j_zret rfl rfl ⟨rfl, rfl⟩ dX9_gives_104 hP
    · have hk := (if_neg c46).symm.trans hk
      refine j_iload (pc' := 65) rfl rfl dX9_gives_63 ?_
      refine j_iload (pc' := 67) rfl rfl dX9_gives_65 ?_
      refine j_iconst (pc' := 68) (v := 4) rfl rfl dX9_gives_67 ?_
      refine j_ic_ne (pc' := 71) (tg := 75) rfl rfl dX9_gives_68 (fun c45 => ?_) (fun c45 => ?_)
      · have hk := (if_neg c45).symm.trans hk
        refine j_iconst (pc' := 76) (v := 0) rfl rfl dX9_gives_75 ?_
        exact qM_gives_j76 hk hP
      · have hk := (if_pos c45).symm.trans hk
        refine j_iconst (pc' := 72) (v := 1) rfl rfl dX9_gives_71 ?_
        refine j_goto (tg := 76) rfl dX9_gives_72 ?_
        exact qM_gives_j76 hk hP
theorem qM_gives {σ : Mem} {x1 : Int32} {x2 : Int32} {o3 : Option AV} {o4 : Option AV} {o5 : Option AV} {o6 : Option AV} {o7 : Option AV} {o8 : Option AV} {res : Int32 × Mem} (hk : kM_gives σ x1 x2 = some res) (hP : Po (some (vI res.1)) (hp res.2)) : J l D dA H0 YM_gives h0 Po 0 0 (hp σ) 0 [some (vR (some (30, 0))), some (vI x1), some (vI x2), o3, o4, o5, o6, o7, o8] [] := by
  unfold kM_gives at hk
  refine j_iload_n (pc' := 1) rfl rfl dX9_gives_0 ?_
  refine j_bipush (pc' := 3) (v := 32) rfl rfl dX9_gives_1 ?_
  refine j_idiv (pc' := 4) (by decide) rfl dX9_gives_3 ?_
  refine j_istore_n (pc' := 5) (lt_b rfl) rfl rfl dX9_gives_4 ?_
  refine j_iload_n (pc' := 6) rfl rfl dX9_gives_5 ?_
  refine j_bipush (pc' := 8) (v := 32) rfl rfl dX9_gives_6 ?_
  refine j_irem (pc' := 9) (by decide) rfl dX9_gives_8 ?_
  refine j_iconst (pc' := 10) (v := 4) rfl rfl dX9_gives_9 ?_
  refine j_idiv (pc' := 11) (by decide) rfl dX9_gives_10 ?_
  refine j_istore (pc' := 13) (lt_b rfl) rfl rfl dX9_gives_11 ?_
  refine j_iload_n (pc' := 14) rfl rfl dX9_gives_13 ?_
  refine j_iconst (pc' := 15) (v := 4) rfl rfl dX9_gives_14 ?_
  refine j_irem (pc' := 16) (by decide) rfl dX9_gives_15 ?_
  refine j_iconst (pc' := 17) (v := 1) rfl rfl dX9_gives_16 ?_
  refine j_ic_ne (pc' := 20) (tg := 24) rfl rfl dX9_gives_17 (fun c48 => ?_) (fun c48 => ?_)
  · have hk := (if_neg c48).symm.trans hk
    refine j_iconst (pc' := 25) (v := 0) rfl rfl dX9_gives_24 ?_
    exact qM_gives_j25 hk hP
  · have hk := (if_pos c48).symm.trans hk
    refine j_iconst (pc' := 21) (v := 1) rfl rfl dX9_gives_20 ?_
    refine j_goto (tg := 25) rfl dX9_gives_21 ?_
    exact qM_gives_j25 hk hP
theorem LM_gives {σ σ' : Mem} {x1 : Int32} {x2 : Int32} {r : Int32} (hk : kM_gives σ x1 x2 = some (r, σ')) : M l D dA H0 yX9_gives YM_gives [vR (some (30, 0)), vI x1, vI x2] (hp σ) (fun x h' => x = some (vI r) ∧ h' = hp σ') :=
  m_of (j := 6) (by decide) rfl (fun hh => by cases hh) ⟨fun _ _ => trivial, rfl⟩ (le_b rfl) (qM_gives hk ⟨rfl, rfl⟩)
theorem qM_plan_s2 {σ : Mem} {x1 : Int32} {x2 : Int32} {o3 : Option AV} {out : (Int32 × Mem) ⊕ (Mem)} (hk : kM_plan_s2 x1 (x2, σ) = some out) (hc : ∀ (z2 : Int32) (ς : Mem), out = .inl (z2, ς) → ∀ (o3 : Option AV), J l D dA H0 YM_plan h0 Po 0 0 (hp ς) 2 [some (vR (some (30, 0))), some (vI x1), some (vI z2), o3] []) (hx0 : ∀ (ς : Mem), out = .inr ς → ∀ (o2 o3 : Option AV), J l D dA H0 YM_plan h0 Po 0 0 (hp ς) 42 [some (vR (some (30, 0))), some (vI x1), o2, o3] []) : J l D dA H0 YM_plan h0 Po 0 0 (hp σ) 2 [some (vR (some (30, 0))), some (vI x1), some (vI x2), o3] [] := by
  unfold kM_plan_s2 at hk
  refine j_iload_n (pc' := 3) rfl rfl dX9_plan_2 ?_
  refine j_aload_n (pc' := 4) rfl rfl dX9_plan_3 ?_
  refine j_getf (pc' := 7) fg_RX9_117 (hp_e rfl) rfl rfl dX9_plan_4 ?_
  refine j_ic_ge (pc' := 10) (tg := 42) rfl rfl dX9_plan_7 (fun c4 => ?_) (fun c4 => ?_)
  · have hk := (if_pos c4).symm.trans hk
    obtain rfl := Option.some.inj hk
    exact hx0 _ rfl _ _
  · have hk := (if_neg c4).symm.trans hk
    refine j_aload_n (pc' := 11) rfl rfl dX9_plan_10 ?_
    refine j_getf (pc' := 14) fg_RX9_76 (hp_e rfl) rfl rfl dX9_plan_11 ?_
    refine j_iload_n (pc' := 15) rfl rfl dX9_plan_14 ?_
    refine j_iconst (pc' := 16) (v := 0) rfl rfl dX9_plan_15 ?_
    obtain ⟨g1, hk⟩ := of_ite hk
    refine j_sz (pc' := 17) (fun _ _ _ => rfl) (inR_in g1) rfl dX9_plan_16 ?_
    refine j_aload_n (pc' := 18) rfl rfl dX9_plan_17 ?_
    refine j_getf (pc' := 21) fg_RX9_79 (hp_e rfl) rfl rfl dX9_plan_18 ?_
    refine j_iload_n (pc' := 22) rfl rfl dX9_plan_21 ?_
    refine j_iconst (pc' := 23) (v := 0) rfl rfl dX9_plan_22 ?_
    obtain ⟨g2, hk⟩ := of_ite hk
    refine j_sz (pc' := 24) (fun _ _ _ => rfl) (inR_in g2) rfl dX9_plan_23 ?_
    refine j_aload_n (pc' := 25) rfl rfl dX9_plan_24 ?_
    refine j_getf (pc' := 28) fg_RX9_64 (hp_e rfl) rfl rfl dX9_plan_25 ?_
    refine j_bipush (pc' := 30) (v := 60) rfl rfl dX9_plan_28 ?_
    refine j_iload_n (pc' := 31) rfl rfl dX9_plan_30 ?_
    refine j_imul (pc' := 32) rfl dX9_plan_31 ?_
    refine j_iload_n (pc' := 33) rfl rfl dX9_plan_32 ?_
    refine j_iadd (pc' := 34) rfl dX9_plan_33 ?_
    refine j_iconst (pc' := 35) (v := (-1)) rfl rfl dX9_plan_34 ?_
    obtain ⟨g3, hk⟩ := of_ite hk
    refine j_si (pc' := 36) (fun _ _ _ => rfl) (inR_in g3) rfl dX9_plan_35 ?_
    refine j_iinc (pc' := 39) (v := x2 + 1) rfl rfl (lt_b rfl) rfl rfl dX9_plan_36 ?_
    refine j_goto (tg := 2) rfl dX9_plan_39 ?_
    obtain rfl := Option.some.inj hk
    exact hc _ _ rfl _
theorem lM_plan_s2 {x1 : Int32} : ∀ (n : Nat) (x2 : Int32) (σ : Mem) (e : (Mem)), loopF n (kM_plan_s2 x1) (x2, σ) = some e → (∀ (ς : Mem), e = ς → ∀ (o2 o3 : Option AV), J l D dA H0 YM_plan h0 Po 0 0 (hp ς) 42 [some (vR (some (30, 0))), some (vI x1), o2, o3] []) → ∀ (o3 : Option AV), J l D dA H0 YM_plan h0 Po 0 0 (hp σ) 2 [some (vR (some (30, 0))), some (vI x1), some (vI x2), o3] []
  | 0, x2, σ, e, he => by cases he
  | n + 1, x2, σ, e, he => by
    intro hx0 o3
    rcases loopF_succ he with ⟨s', h1, h2⟩ | h1
    · refine qM_plan_s2 h1 ?_ ?_
      · intro z2 ς ee
        cases ee
        exact lM_plan_s2 n z2 ς e h2 hx0
      · intro ς ee
        cases ee
    · refine qM_plan_s2 h1 ?_ ?_
      · intro z2 ς ee
        cases ee
      · intro ς ee
        exact hx0 ς (Sum.inr.inj ee)
theorem qM_plan_s44 {σ : Mem} {x1 : Int32} {x2 : Int32} {o3 : Option AV} {out : (Int32 × Mem) ⊕ (Mem)} (hk : kM_plan_s44 x1 (x2, σ) = some out) (hc : ∀ (z2 : Int32) (ς : Mem), out = .inl (z2, ς) → ∀ (o3 : Option AV), J l D dA H0 YM_plan h0 Po 0 0 (hp ς) 44 [some (vR (some (30, 0))), some (vI x1), some (vI z2), o3] []) (hx0 : ∀ (ς : Mem), out = .inr ς → ∀ (o2 o3 : Option AV), J l D dA H0 YM_plan h0 Po 0 0 (hp ς) 62 [some (vR (some (30, 0))), some (vI x1), o2, o3] []) : J l D dA H0 YM_plan h0 Po 0 0 (hp σ) 44 [some (vR (some (30, 0))), some (vI x1), some (vI x2), o3] [] := by
  unfold kM_plan_s44 at hk
  refine j_iload_n (pc' := 45) rfl rfl dX9_plan_44 ?_
  refine j_iconst (pc' := 46) (v := 5) rfl rfl dX9_plan_45 ?_
  refine j_ic_ge (pc' := 49) (tg := 62) rfl rfl dX9_plan_46 (fun c6 => ?_) (fun c6 => ?_)
  · have hk := (if_pos c6).symm.trans hk
    obtain rfl := Option.some.inj hk
    exact hx0 _ rfl _ _
  · have hk := (if_neg c6).symm.trans hk
    refine j_aload_n (pc' := 50) rfl rfl dX9_plan_49 ?_
    refine j_getf (pc' := 53) fg_RX9_70 (hp_e rfl) rfl rfl dX9_plan_50 ?_
    refine j_iload_n (pc' := 54) rfl rfl dX9_plan_53 ?_
    refine j_iconst (pc' := 55) (v := 0) rfl rfl dX9_plan_54 ?_
    obtain ⟨g5, hk⟩ := of_ite hk
    refine j_si (pc' := 56) (fun _ _ _ => rfl) (inR_in g5) rfl dX9_plan_55 ?_
    refine j_iinc (pc' := 59) (v := x2 + 1) rfl rfl (lt_b rfl) rfl rfl dX9_plan_56 ?_
    refine j_goto (tg := 44) rfl dX9_plan_59 ?_
    obtain rfl := Option.some.inj hk
    exact hc _ _ rfl _
theorem lM_plan_s44 {x1 : Int32} : ∀ (n : Nat) (x2 : Int32) (σ : Mem) (e : (Mem)), loopF n (kM_plan_s44 x1) (x2, σ) = some e → (∀ (ς : Mem), e = ς → ∀ (o2 o3 : Option AV), J l D dA H0 YM_plan h0 Po 0 0 (hp ς) 62 [some (vR (some (30, 0))), some (vI x1), o2, o3] []) → ∀ (o3 : Option AV), J l D dA H0 YM_plan h0 Po 0 0 (hp σ) 44 [some (vR (some (30, 0))), some (vI x1), some (vI x2), o3] []
  | 0, x2, σ, e, he => by cases he
  | n + 1, x2, σ, e, he => by
    intro hx0 o3
    rcases loopF_succ he with ⟨s', h1, h2⟩ | h1
    · refine qM_plan_s44 h1 ?_ ?_
      · intro z2 ς ee
        cases ee
        exact lM_plan_s44 n z2 ς e h2 hx0
      · intro ς ee
        cases ee
    · refine qM_plan_s44 h1 ?_ ?_
      · intro z2 ς ee
        cases ee
      · intro ς ee
        exact hx0 ς (Sum.inr.inj ee)
theorem qM_plan_s87 {σ : Mem} {x1 : Int32} {x2 : Int32} {o3 : Option AV} {out : (Int32 × Mem) ⊕ (Mem)} (hk : kM_plan_s87 x1 (x2, σ) = some out) (hc : ∀ (z2 : Int32) (ς : Mem), out = .inl (z2, ς) → ∀ (o3 : Option AV), J l D dA H0 YM_plan h0 Po 0 0 (hp ς) 87 [some (vR (some (30, 0))), some (vI x1), some (vI z2), o3] []) (hx0 : ∀ (ς : Mem), out = .inr ς → ∀ (o2 o3 : Option AV), J l D dA H0 YM_plan h0 Po 0 0 (hp ς) 164 [some (vR (some (30, 0))), some (vI x1), o2, o3] []) : J l D dA H0 YM_plan h0 Po 0 0 (hp σ) 87 [some (vR (some (30, 0))), some (vI x1), some (vI x2), o3] [] := by
  unfold kM_plan_s87 at hk
  refine j_iload_n (pc' := 88) rfl rfl dX9_plan_87 ?_
  refine j_aload_n (pc' := 89) rfl rfl dX9_plan_88 ?_
  refine j_getf (pc' := 92) fg_RX9_117 (hp_e rfl) rfl rfl dX9_plan_89 ?_
  refine j_ic_ge (pc' := 95) (tg := 164) rfl rfl dX9_plan_92 (fun c25 => ?_) (fun c25 => ?_)
  · have hk := (if_pos c25).symm.trans hk
    obtain rfl := Option.some.inj hk
    exact hx0 _ rfl _ _
  · have hk := (if_neg c25).symm.trans hk
    refine j_iload_n (pc' := 96) rfl rfl dX9_plan_95 ?_
    refine j_if_le (pc' := 99) (tg := 164) rfl rfl dX9_plan_96 (fun c24 => ?_) (fun c24 => ?_)
    · have hk := (if_pos c24).symm.trans hk
      obtain rfl := Option.some.inj hk
      exact hx0 _ rfl _ _
    · have hk := (if_neg c24).symm.trans hk
      refine j_aload_n (pc' := 100) rfl rfl dX9_plan_99 ?_
      refine j_getf (pc' := 103) fg_RX9_64 (hp_e rfl) rfl rfl dX9_plan_100 ?_
      refine j_bipush (pc' := 105) (v := 60) rfl rfl dX9_plan_103 ?_
      refine j_iload_n (pc' := 106) rfl rfl dX9_plan_105 ?_
      refine j_imul (pc' := 107) rfl dX9_plan_106 ?_
      refine j_iload_n (pc' := 108) rfl rfl dX9_plan_107 ?_
      refine j_iadd (pc' := 109) rfl dX9_plan_108 ?_
      refine j_iconst (pc' := 110) (v := 1) rfl rfl dX9_plan_109 ?_
      refine j_isub (pc' := 111) rfl dX9_plan_110 ?_
      obtain ⟨g15, hk⟩ := of_ite hk
      refine j_iald (pc' := 112) (hp_e rfl) (inR_in g15) rfl dX9_plan_111 ?_
      refine j_istore_n (pc' := 113) (lt_b rfl) rfl rfl dX9_plan_112 ?_
      refine j_aload_n (pc' := 114) rfl rfl dX9_plan_113 ?_
      refine j_getf (pc' := 117) fg_RX9_76 (hp_e rfl) rfl rfl dX9_plan_114 ?_
      refine j_iload_n (pc' := 118) rfl rfl dX9_plan_117 ?_
      obtain ⟨g16, hk⟩ := of_ite hk
      refine j_bald (pc' := 119) (hp_e rfl) (inR_in g16) rfl dX9_plan_118 ?_
      refine j_if_eq (pc' := 122) (tg := 158) rfl rfl dX9_plan_119 (fun c23 => ?_) (fun c23 => ?_)
      · have hk := (if_pos c23).symm.trans hk
        refine j_iinc (pc' := 161) (v := x2 + 1) rfl rfl (lt_b rfl) rfl rfl dX9_plan_158 ?_
        refine j_goto (tg := 87) rfl dX9_plan_161 ?_
        obtain rfl := Option.some.inj hk
        exact hc _ _ rfl _
      · have hk := (if_neg c23).symm.trans hk
        refine j_iload_n (pc' := 123) rfl rfl dX9_plan_122 ?_
        refine j_iconst (pc' := 124) (v := (-1)) rfl rfl dX9_plan_123 ?_
        refine j_ic_eq (pc' := 127) (tg := 158) rfl rfl dX9_plan_124 (fun c22 => ?_) (fun c22 => ?_)
        · have hk := (if_pos c22).symm.trans hk
          refine j_iinc (pc' := 161) (v := x2 + 1) rfl rfl (lt_b rfl) rfl rfl dX9_plan_158 ?_
          refine j_goto (tg := 87) rfl dX9_plan_161 ?_
          obtain rfl := Option.some.inj hk
          exact hc _ _ rfl _
        · have hk := (if_neg c22).symm.trans hk
          refine j_aload_n (pc' := 128) rfl rfl dX9_plan_127 ?_
          refine j_iload_n (pc' := 129) rfl rfl dX9_plan_128 ?_
          refine j_iload_n (pc' := 130) rfl rfl dX9_plan_129 ?_
          obtain ⟨⟨r17, σ18⟩, hx, hk⟩ := of_bind hk
          refine j_cv1 (pc' := 133) (LM_gives hx) cv_RX9_155 ⟨le_b rfl, le_b rfl⟩ (hp_e rfl) rfl rfl (le_b rfl) ⟨rfl, rfl⟩ ⟨le_b rfl, le_b rfl⟩ rfl rfl dX9_plan_130 ?_
          refine j_if_ne (pc' := 136) (tg := 139) rfl rfl dX9_plan_133 (fun c21 => ?_) (fun c21 => ?_)
          · have hk := (if_neg c21).symm.trans hk
            refine j_aload_n (pc' := 140) rfl rfl dX9_plan_139 ?_
            refine j_getf (pc' := 143) fg_RX9_79 (hp_e rfl) rfl rfl dX9_plan_140 ?_
            refine j_iload_n (pc' := 144) rfl rfl dX9_plan_143 ?_
            refine j_iconst (pc' := 145) (v := 1) rfl rfl dX9_plan_144 ?_
            obtain ⟨g19, hk⟩ := of_ite hk
            refine j_sz (pc' := 146) (fun _ _ _ => rfl) (inR_in g19) rfl dX9_plan_145 ?_
            refine j_aload_n (pc' := 147) rfl rfl dX9_plan_146 ?_
            refine j_getf (pc' := 150) fg_RX9_64 (hp_e rfl) rfl rfl dX9_plan_147 ?_
            refine j_bipush (pc' := 152) (v := 60) rfl rfl dX9_plan_150 ?_
            refine j_iload_n (pc' := 153) rfl rfl dX9_plan_152 ?_
            refine j_imul (pc' := 154) rfl dX9_plan_153 ?_
            refine j_iload_n (pc' := 155) rfl rfl dX9_plan_154 ?_
            refine j_iadd (pc' := 156) rfl dX9_plan_155 ?_
            refine j_iload_n (pc' := 157) rfl rfl dX9_plan_156 ?_
            obtain ⟨g20, hk⟩ := of_ite hk
            refine j_si (pc' := 158) (fun _ _ _ => rfl) (inR_in g20) rfl dX9_plan_157 ?_
            refine j_iinc (pc' := 161) (v := x2 + 1) rfl rfl (lt_b rfl) rfl rfl dX9_plan_158 ?_
            refine j_goto (tg := 87) rfl dX9_plan_161 ?_
            obtain rfl := Option.some.inj hk
            exact hc _ _ rfl _
          · have hk := (if_pos c21).symm.trans hk
            refine j_goto (tg := 158) rfl dX9_plan_136 ?_
            refine j_iinc (pc' := 161) (v := x2 + 1) rfl rfl (lt_b rfl) rfl rfl dX9_plan_158 ?_
            refine j_goto (tg := 87) rfl dX9_plan_161 ?_
            obtain rfl := Option.some.inj hk
            exact hc _ _ rfl _
theorem lM_plan_s87 {x1 : Int32} : ∀ (n : Nat) (x2 : Int32) (σ : Mem) (e : (Mem)), loopF n (kM_plan_s87 x1) (x2, σ) = some e → (∀ (ς : Mem), e = ς → ∀ (o2 o3 : Option AV), J l D dA H0 YM_plan h0 Po 0 0 (hp ς) 164 [some (vR (some (30, 0))), some (vI x1), o2, o3] []) → ∀ (o3 : Option AV), J l D dA H0 YM_plan h0 Po 0 0 (hp σ) 87 [some (vR (some (30, 0))), some (vI x1), some (vI x2), o3] []
  | 0, x2, σ, e, he => by cases he
  | n + 1, x2, σ, e, he => by
    intro hx0 o3
    rcases loopF_succ he with ⟨s', h1, h2⟩ | h1
    · refine qM_plan_s87 h1 ?_ ?_
      · intro z2 ς ee
        cases ee
        exact lM_plan_s87 n z2 ς e h2 hx0
      · intro ς ee
        cases ee
    · refine qM_plan_s87 h1 ?_ ?_
      · intro z2 ς ee
        cases ee
      · intro ς ee
        exact hx0 ς (Sum.inr.inj ee)
theorem qM_plan_s176 {σ : Mem} {x1 : Int32} {x2 : Int32} {x3 : Int32} {out : (Int32 × Mem) ⊕ (Mem)} (hk : kM_plan_s176 x1 x2 (x3, σ) = some out) (hc : ∀ (z3 : Int32) (ς : Mem), out = .inl (z3, ς) → ∀ (_ : Unit), J l D dA H0 YM_plan h0 Po 0 0 (hp ς) 176 [some (vR (some (30, 0))), some (vI x1), some (vI x2), some (vI z3)] []) (hx0 : ∀ (ς : Mem), out = .inr ς → ∀ (o3 : Option AV), J l D dA H0 YM_plan h0 Po 0 0 (hp ς) 245 [some (vR (some (30, 0))), some (vI x1), some (vI x2), o3] []) : J l D dA H0 YM_plan h0 Po 0 0 (hp σ) 176 [some (vR (some (30, 0))), some (vI x1), some (vI x2), some (vI x3)] [] := by
  unfold kM_plan_s176 at hk
  refine j_iload_n (pc' := 177) rfl rfl dX9_plan_176 ?_
  refine j_sipush (pc' := 180) (v := 512) rfl rfl dX9_plan_177 ?_
  refine j_ic_ge (pc' := 183) (tg := 245) rfl rfl dX9_plan_180 (fun c36 => ?_) (fun c36 => ?_)
  · have hk := (if_pos c36).symm.trans hk
    obtain rfl := Option.some.inj hk
    exact hx0 _ rfl _
  · have hk := (if_neg c36).symm.trans hk
    refine j_aload_n (pc' := 184) rfl rfl dX9_plan_183 ?_
    refine j_getf (pc' := 187) fg_RX9_76 (hp_e rfl) rfl rfl dX9_plan_184 ?_
    refine j_iload_n (pc' := 188) rfl rfl dX9_plan_187 ?_
    obtain ⟨g26, hk⟩ := of_ite hk
    refine j_bald (pc' := 189) (hp_e rfl) (inR_in g26) rfl dX9_plan_188 ?_
    refine j_if_eq (pc' := 192) (tg := 245) rfl rfl dX9_plan_189 (fun c35 => ?_) (fun c35 => ?_)
    · have hk := (if_pos c35).symm.trans hk
      obtain rfl := Option.some.inj hk
      exact hx0 _ rfl _
    · have hk := (if_neg c35).symm.trans hk
      refine j_aload_n (pc' := 193) rfl rfl dX9_plan_192 ?_
      refine j_getf (pc' := 196) fg_RX9_79 (hp_e rfl) rfl rfl dX9_plan_193 ?_
      refine j_iload_n (pc' := 197) rfl rfl dX9_plan_196 ?_
      obtain ⟨g27, hk⟩ := of_ite hk
      refine j_bald (pc' := 198) (hp_e rfl) (inR_in g27) rfl dX9_plan_197 ?_
      refine j_if_ne (pc' := 201) (tg := 245) rfl rfl dX9_plan_198 (fun c34 => ?_) (fun c34 => ?_)
      · have hk := (if_neg c34).symm.trans hk
        obtain rfl := Option.some.inj hk
        exact hx0 _ rfl _
      · have hk := (if_pos c34).symm.trans hk
        refine j_iload_n (pc' := 202) rfl rfl dX9_plan_201 ?_
        refine j_iconst (pc' := 203) (v := 4) rfl rfl dX9_plan_202 ?_
        refine j_irem (pc' := 204) (by decide) rfl dX9_plan_203 ?_
        refine j_iconst (pc' := 205) (v := 1) rfl rfl dX9_plan_204 ?_
        refine j_ic_gt (pc' := 208) (tg := 239) rfl rfl dX9_plan_205 (fun c33 => ?_) (fun c33 => ?_)
        · have hk := (if_pos c33).symm.trans hk
          refine j_iinc (pc' := 242) (v := x3 + 1) rfl rfl (lt_b rfl) rfl rfl dX9_plan_239 ?_
          refine j_goto (tg := 176) rfl dX9_plan_242 ?_
          obtain rfl := Option.some.inj hk
          exact hc _ _ rfl ()
        · have hk := (if_neg c33).symm.trans hk
          refine j_aload_n (pc' := 209) rfl rfl dX9_plan_208 ?_
          refine j_iload_n (pc' := 210) rfl rfl dX9_plan_209 ?_
          refine j_iload_n (pc' := 211) rfl rfl dX9_plan_210 ?_
          obtain ⟨⟨r28, σ29⟩, hx, hk⟩ := of_bind hk
          refine j_cv1 (pc' := 214) (LM_gives hx) cv_RX9_155 ⟨le_b rfl, le_b rfl⟩ (hp_e rfl) rfl rfl (le_b rfl) ⟨rfl, rfl⟩ ⟨le_b rfl, le_b rfl⟩ rfl rfl dX9_plan_211 ?_
          refine j_if_ne (pc' := 217) (tg := 220) rfl rfl dX9_plan_214 (fun c32 => ?_) (fun c32 => ?_)
          · have hk := (if_neg c32).symm.trans hk
            refine j_aload_n (pc' := 221) rfl rfl dX9_plan_220 ?_
            refine j_getf (pc' := 224) fg_RX9_79 (hp_e rfl) rfl rfl dX9_plan_221 ?_
            refine j_iload_n (pc' := 225) rfl rfl dX9_plan_224 ?_
            refine j_iconst (pc' := 226) (v := 1) rfl rfl dX9_plan_225 ?_
            obtain ⟨g30, hk⟩ := of_ite hk
            refine j_sz (pc' := 227) (fun _ _ _ => rfl) (inR_in g30) rfl dX9_plan_226 ?_
            refine j_aload_n (pc' := 228) rfl rfl dX9_plan_227 ?_
            refine j_getf (pc' := 231) fg_RX9_64 (hp_e rfl) rfl rfl dX9_plan_228 ?_
            refine j_bipush (pc' := 233) (v := 60) rfl rfl dX9_plan_231 ?_
            refine j_iload_n (pc' := 234) rfl rfl dX9_plan_233 ?_
            refine j_imul (pc' := 235) rfl dX9_plan_234 ?_
            refine j_iload_n (pc' := 236) rfl rfl dX9_plan_235 ?_
            refine j_iadd (pc' := 237) rfl dX9_plan_236 ?_
            refine j_iload_n (pc' := 238) rfl rfl dX9_plan_237 ?_
            obtain ⟨g31, hk⟩ := of_ite hk
            refine j_si (pc' := 239) (fun _ _ _ => rfl) (inR_in g31) rfl dX9_plan_238 ?_
            refine j_iinc (pc' := 242) (v := x3 + 1) rfl rfl (lt_b rfl) rfl rfl dX9_plan_239 ?_
            refine j_goto (tg := 176) rfl dX9_plan_242 ?_
            obtain rfl := Option.some.inj hk
            exact hc _ _ rfl ()
          · have hk := (if_pos c32).symm.trans hk
            refine j_goto (tg := 239) rfl dX9_plan_217 ?_
            refine j_iinc (pc' := 242) (v := x3 + 1) rfl rfl (lt_b rfl) rfl rfl dX9_plan_239 ?_
            refine j_goto (tg := 176) rfl dX9_plan_242 ?_
            obtain rfl := Option.some.inj hk
            exact hc _ _ rfl ()
theorem lM_plan_s176 {x1 : Int32} {x2 : Int32} : ∀ (n : Nat) (x3 : Int32) (σ : Mem) (e : (Mem)), loopF n (kM_plan_s176 x1 x2) (x3, σ) = some e → (∀ (ς : Mem), e = ς → ∀ (o3 : Option AV), J l D dA H0 YM_plan h0 Po 0 0 (hp ς) 245 [some (vR (some (30, 0))), some (vI x1), some (vI x2), o3] []) → ∀ (_ : Unit), J l D dA H0 YM_plan h0 Po 0 0 (hp σ) 176 [some (vR (some (30, 0))), some (vI x1), some (vI x2), some (vI x3)] []
  | 0, x3, σ, e, he => by cases he
  | n + 1, x3, σ, e, he => by
    intro hx0 u
    rcases loopF_succ he with ⟨s', h1, h2⟩ | h1
    · refine qM_plan_s176 h1 ?_ ?_
      · intro z3 ς ee
        cases ee
        exact lM_plan_s176 n z3 ς e h2 hx0
      · intro ς ee
        cases ee
    · refine qM_plan_s176 h1 ?_ ?_
      · intro z3 ς ee
        cases ee
      · intro ς ee
        exact hx0 ς (Sum.inr.inj ee)
theorem qM_plan_x245 {σ : Mem} {x1 : Int32} {x2 : Int32} {o3 : Option AV} {out : Int32 × Mem ⊕ (Mem)} (hk : kM_plan_x245 σ x1 x2 = some out) (hc : ∀ (z2 : Int32) (ς : Mem), out = .inl (z2, ς) → ∀ (o3 : Option AV), J l D dA H0 YM_plan h0 Po 0 0 (hp ς) 166 [some (vR (some (30, 0))), some (vI x1), some (vI z2), o3] []) (hx0 : ∀ (ς : Mem), out = .inr ς → ∀ (o0 o1 o2 o3 : Option AV), J l D dA H0 YM_plan h0 Po 0 0 (hp ς) 251 [o0, o1, o2, o3] []) : J l D dA H0 YM_plan h0 Po 0 0 (hp σ) 245 [some (vR (some (30, 0))), some (vI x1), some (vI x2), o3] [] := by
  unfold kM_plan_x245 at hk
  refine j_iinc (pc' := 248) (v := x2 + 1) rfl rfl (lt_b rfl) rfl rfl dX9_plan_245 ?_
  refine j_goto (tg := 166) rfl dX9_plan_248 ?_
  obtain rfl := Option.some.inj hk
  exact hc _ _ rfl _
theorem qM_plan_s166 {σ : Mem} {x1 : Int32} {x2 : Int32} {o3 : Option AV} {out : (Int32 × Mem) ⊕ (Mem)} (hk : kM_plan_s166 x1 (x2, σ) = some out) (hc : ∀ (z2 : Int32) (ς : Mem), out = .inl (z2, ς) → ∀ (o3 : Option AV), J l D dA H0 YM_plan h0 Po 0 0 (hp ς) 166 [some (vR (some (30, 0))), some (vI x1), some (vI z2), o3] []) (hx0 : ∀ (ς : Mem), out = .inr ς → ∀ (o0 o1 o2 o3 : Option AV), J l D dA H0 YM_plan h0 Po 0 0 (hp ς) 251 [o0, o1, o2, o3] []) : J l D dA H0 YM_plan h0 Po 0 0 (hp σ) 166 [some (vR (some (30, 0))), some (vI x1), some (vI x2), o3] [] := by
  unfold kM_plan_s166 at hk
  refine j_iload_n (pc' := 167) rfl rfl dX9_plan_166 ?_
  refine j_aload_n (pc' := 168) rfl rfl dX9_plan_167 ?_
  refine j_getf (pc' := 171) fg_RX9_117 (hp_e rfl) rfl rfl dX9_plan_168 ?_
  refine j_ic_ge (pc' := 174) (tg := 251) rfl rfl dX9_plan_171 (fun c37 => ?_) (fun c37 => ?_)
  · have hk := (if_pos c37).symm.trans hk
    obtain rfl := Option.some.inj hk
    exact hx0 _ rfl _ _ _ _
  · have hk := (if_neg c37).symm.trans hk
    refine j_iconst (pc' := 175) (v := 0) rfl rfl dX9_plan_174 ?_
    refine j_istore_n (pc' := 176) (lt_b rfl) rfl rfl dX9_plan_175 ?_
    obtain ⟨e, he, hk⟩ := of_bind hk
    refine lM_plan_s176 FU _ _ e he ?_ ()
    · intro ς ee _
      subst ee
      exact qM_plan_x245 hk hc hx0
theorem lM_plan_s166 {x1 : Int32} : ∀ (n : Nat) (x2 : Int32) (σ : Mem) (e : (Mem)), loopF n (kM_plan_s166 x1) (x2, σ) = some e → (∀ (ς : Mem), e = ς → ∀ (o0 o1 o2 o3 : Option AV), J l D dA H0 YM_plan h0 Po 0 0 (hp ς) 251 [o0, o1, o2, o3] []) → ∀ (o3 : Option AV), J l D dA H0 YM_plan h0 Po 0 0 (hp σ) 166 [some (vR (some (30, 0))), some (vI x1), some (vI x2), o3] []
  | 0, x2, σ, e, he => by cases he
  | n + 1, x2, σ, e, he => by
    intro hx0 o3
    rcases loopF_succ he with ⟨s', h1, h2⟩ | h1
    · refine qM_plan_s166 h1 ?_ ?_
      · intro z2 ς ee
        cases ee
        exact lM_plan_s166 n z2 ς e h2 hx0
      · intro ς ee
        cases ee
    · refine qM_plan_s166 h1 ?_ ?_
      · intro z2 ς ee
        cases ee
      · intro ς ee
        exact hx0 ς (Sum.inr.inj ee)
theorem qM_plan_x251 {σ : Mem} {o0 : Option AV} {o1 : Option AV} {o2 : Option AV} {o3 : Option AV} {res : Unit × Mem} (hk : kM_plan_x251 σ = some res) (hP : Po none (hp res.2)) : J l D dA H0 YM_plan h0 Po 0 0 (hp σ) 251 [o0, o1, o2, o3] [] := by
  unfold kM_plan_x251 at hk
  obtain rfl := Option.some.inj hk
  exact j_ret rfl ⟨rfl, rfl⟩ dX9_plan_251 hP
theorem qM_plan_x164 {σ : Mem} {x1 : Int32} {o2 : Option AV} {o3 : Option AV} {res : Unit × Mem} (hk : kM_plan_x164 σ x1 = some res) (hP : Po none (hp res.2)) : J l D dA H0 YM_plan h0 Po 0 0 (hp σ) 164 [some (vR (some (30, 0))), some (vI x1), o2, o3] [] := by
  unfold kM_plan_x164 at hk
  refine j_iconst (pc' := 165) (v := 0) rfl rfl dX9_plan_164 ?_
  refine j_istore_n (pc' := 166) (lt_b rfl) rfl rfl dX9_plan_165 ?_
  obtain ⟨e, he, hk⟩ := of_bind hk
  refine lM_plan_s166 FU _ _ e he ?_ _
  · intro ς ee _ _ _ _
    subst ee
    exact qM_plan_x251 hk hP
theorem qM_plan_x62 {σ : Mem} {x1 : Int32} {o2 : Option AV} {o3 : Option AV} {res : Unit × Mem} (hk : kM_plan_x62 σ x1 = some res) (hP : Po none (hp res.2)) : J l D dA H0 YM_plan h0 Po 0 0 (hp σ) 62 [some (vR (some (30, 0))), some (vI x1), o2, o3] [] := by
  unfold kM_plan_x62 at hk
  refine j_aload_n (pc' := 63) rfl rfl dX9_plan_62 ?_
  refine j_iload_n (pc' := 64) rfl rfl dX9_plan_63 ?_
  obtain ⟨⟨_, σ8⟩, hx, hk⟩ := of_bind hk
  refine j_cv0 (pc' := 67) (LM_fresh hx) cv_RX9_140 ⟨le_b rfl, le_b rfl⟩ (hp_e rfl) rfl rfl (le_b rfl) ⟨rfl, rfl⟩ ⟨le_b rfl, le_b rfl⟩ rfl rfl dX9_plan_64 ?_
  refine j_aload_n (pc' := 68) rfl rfl dX9_plan_67 ?_
  refine j_iload_n (pc' := 69) rfl rfl dX9_plan_68 ?_
  refine j_iconst (pc' := 70) (v := 2) rfl rfl dX9_plan_69 ?_
  obtain ⟨⟨_, σ10⟩, hx, hk⟩ := of_bind hk
  refine j_cv0 (pc' := 73) (LM_keep hx) cv_RX9_151 ⟨le_b rfl, le_b rfl⟩ (hp_e rfl) rfl rfl (le_b rfl) ⟨rfl, rfl⟩ ⟨le_b rfl, le_b rfl⟩ rfl rfl dX9_plan_70 ?_
  refine j_aload_n (pc' := 74) rfl rfl dX9_plan_73 ?_
  refine j_iload_n (pc' := 75) rfl rfl dX9_plan_74 ?_
  refine j_iconst (pc' := 76) (v := 1) rfl rfl dX9_plan_75 ?_
  obtain ⟨⟨_, σ12⟩, hx, hk⟩ := of_bind hk
  refine j_cv0 (pc' := 79) (LM_keep hx) cv_RX9_151 ⟨le_b rfl, le_b rfl⟩ (hp_e rfl) rfl rfl (le_b rfl) ⟨rfl, rfl⟩ ⟨le_b rfl, le_b rfl⟩ rfl rfl dX9_plan_76 ?_
  refine j_aload_n (pc' := 80) rfl rfl dX9_plan_79 ?_
  refine j_iload_n (pc' := 81) rfl rfl dX9_plan_80 ?_
  refine j_iconst (pc' := 82) (v := 0) rfl rfl dX9_plan_81 ?_
  obtain ⟨⟨_, σ14⟩, hx, hk⟩ := of_bind hk
  refine j_cv0 (pc' := 85) (LM_keep hx) cv_RX9_151 ⟨le_b rfl, le_b rfl⟩ (hp_e rfl) rfl rfl (le_b rfl) ⟨rfl, rfl⟩ ⟨le_b rfl, le_b rfl⟩ rfl rfl dX9_plan_82 ?_
  refine j_iconst (pc' := 86) (v := 0) rfl rfl dX9_plan_85 ?_
  refine j_istore_n (pc' := 87) (lt_b rfl) rfl rfl dX9_plan_86 ?_
  obtain ⟨e, he, hk⟩ := of_bind hk
  refine lM_plan_s87 FU _ _ e he ?_ _
  · intro ς ee _ _
    subst ee
    exact qM_plan_x164 hk hP
theorem qM_plan_x42 {σ : Mem} {x1 : Int32} {o2 : Option AV} {o3 : Option AV} {res : Unit × Mem} (hk : kM_plan_x42 σ x1 = some res) (hP : Po none (hp res.2)) : J l D dA H0 YM_plan h0 Po 0 0 (hp σ) 42 [some (vR (some (30, 0))), some (vI x1), o2, o3] [] := by
  unfold kM_plan_x42 at hk
  refine j_iconst (pc' := 43) (v := 0) rfl rfl dX9_plan_42 ?_
  refine j_istore_n (pc' := 44) (lt_b rfl) rfl rfl dX9_plan_43 ?_
  obtain ⟨e, he, hk⟩ := of_bind hk
  refine lM_plan_s44 FU _ _ e he ?_ _
  · intro ς ee _ _
    subst ee
    exact qM_plan_x62 hk hP
theorem qM_plan {σ : Mem} {x1 : Int32} {o2 : Option AV} {o3 : Option AV} {res : Unit × Mem} (hk : kM_plan σ x1 = some res) (hP : Po none (hp res.2)) : J l D dA H0 YM_plan h0 Po 0 0 (hp σ) 0 [some (vR (some (30, 0))), some (vI x1), o2, o3] [] := by
  unfold kM_plan at hk
  refine j_iconst (pc' := 1) (v := 0) rfl rfl dX9_plan_0 ?_
  refine j_istore_n (pc' := 2) (lt_b rfl) rfl rfl dX9_plan_1 ?_
  obtain ⟨e, he, hk⟩ := of_bind hk
  refine lM_plan_s2 FU _ _ e he ?_ _
  · intro ς ee _ _
    subst ee
    exact qM_plan_x42 hk hP
theorem LM_plan {σ σ' : Mem} {x1 : Int32} {r : Unit} (hk : kM_plan σ x1 = some (r, σ')) : M l D dA H0 yX9_plan YM_plan [vR (some (30, 0)), vI x1] (hp σ) (fun x h' => x = none ∧ h' = hp σ') :=
  m_of (j := 2) (by decide) rfl (fun hh => by cases hh) ⟨fun _ _ => trivial, rfl⟩ (le_b rfl) (qM_plan hk ⟨rfl, rfl⟩)
end LINK
