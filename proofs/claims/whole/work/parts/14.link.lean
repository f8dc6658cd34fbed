section LINK
variable {l : Launch} {D : va_G} {dA : Nat → ClassId} {H0 : Heap} {h0 : Hx} {Po : Option AV → Hp → Prop}
theorem qV_isFree {σ : Mem} {x1 : Int32} {x2 : Int32} {res : Int32 × Mem} (hk : kV_isFree σ x1 x2 = some res) (hP : Po (some (vI res.1)) (hp res.2)) : J l D dA H0 YV_isFree h0 Po 0 0 (hp σ) 0 [some (vR (some (7, 0))), some (vI x1), some (vI x2)] [] := by
  unfold kV_isFree at hk
  refine j_iload_n (pc' := 1) rfl rfl dX7_isFree_0 ?_
  refine j_if_lt (pc' := 4) (tg := 28) rfl rfl dX7_isFree_1 (fun c4 => ?_) (fun c4 => ?_)
  · have hk := (if_pos c4).symm.trans hk
    refine j_iconst (pc' := 29) (v := 0) rfl rfl dX7_isFree_28 ?_
    obtain rfl := Option.some.inj hk
    exact j_zret rfl rfl ⟨rfl, rfl⟩ dX7_isFree_29 hP
  · have hk := (if_neg c4).symm.trans hk
    refine j_iload_n (pc' := 5) rfl rfl dX7_isFree_4 ?_
    refine j_bipush (pc' := 7) (v := 16) rfl rfl dX7_isFree_5 ?_
    refine j_ic_ge (pc' := 10) (tg := 28) rfl rfl dX7_isFree_7 (fun c3 => ?_) (fun c3 => ?_)
    · have hk := (if_pos c3).symm.trans hk
      refine j_iconst (pc' := 29) (v := 0) rfl rfl dX7_isFree_28 ?_
      obtain rfl := Option.some.inj hk
      exact j_zret rfl rfl ⟨rfl, rfl⟩ dX7_isFree_29 hP
    · have hk := (if_neg c3).symm.trans hk
      refine j_aload_n (pc' := 11) rfl rfl dX7_isFree_10 ?_
      refine j_getf (pc' := 14) fg_RX7_9 (hp_e rfl) rfl rfl dX7_isFree_11 ?_
      refine j_iload_n (pc' := 15) rfl rfl dX7_isFree_14 ?_
      obtain ⟨g1, hk⟩ := of_ite hk
      refine j_iald (pc' := 16) (hp_e rfl) (inR_in g1) rfl dX7_isFree_15 ?_
      refine j_iload_n (pc' := 17) rfl rfl dX7_isFree_16 ?_
      refine j_ishr (pc' := 18) rfl dX7_isFree_17 ?_
      refine j_iconst (pc' := 19) (v := 1) rfl rfl dX7_isFree_18 ?_
      refine j_iand (pc' := 20) rfl dX7_isFree_19 ?_
      refine j_iconst (pc' := 21) (v := 1) rfl rfl dX7_isFree_20 ?_
      refine j_ic_ne (pc' := 24) (tg := 28) rfl rfl dX7_isFree_21 (fun c2 => ?_) (fun c2 => ?_)
      · have hk := (if_neg c2).symm.trans hk
        refine j_iconst (pc' := 29) (v := 0) rfl rfl dX7_isFree_28 ?_
        obtain rfl := Option.some.inj hk
        exact j_zret rfl rfl ⟨rfl, rfl⟩ dX7_isFree_29 hP
      · have hk := (if_pos c2).symm.trans hk
        refine j_iconst (pc' := 25) (v := 1) rfl rfl dX7_isFree_24 ?_
        refine j_goto (tg := 29) rfl dX7_isFree_25 ?_
        obtain rfl := Option.some.inj hk
        exact j_zret rfl rfl ⟨rfl, rfl⟩ dX7_isFree_29 hP
theorem LV_isFree {σ σ' : Mem} {x1 : Int32} {x2 : Int32} {r : Int32} (hk : kV_isFree σ x1 x2 = some (r, σ')) : M l D dA H0 yX7_isFree YV_isFree [vR (some (7, 0)), vI x1, vI x2] (hp σ) (fun x h' => x = some (vI r) ∧ h' = hp σ') :=
  m_of (j := 0) (by decide) rfl (fun hh => by cases hh) ⟨fun _ _ => trivial, rfl⟩ (le_b rfl) (qV_isFree hk ⟨rfl, rfl⟩)
theorem qV_begin_j117 {σ : Mem} {x1 : Int32} {x2 : Int32} {y0 : Int32} {y1 : Int32} {o3 : Option AV} {out : Int32 × Mem ⊕ (Mem)} (hk : kV_begin_j117 σ x1 x2 y0 y1 = some out) (hc : ∀ (z2 : Int32) (ς : Mem), out = .inl (z2, ς) → ∀ (o3 : Option AV), J l D dA H0 YV_begin h0 Po 0 0 (hp ς) 23 [some (vR (some (7, 0))), some (vI x1), some (vI z2), o3] []) (hx0 : ∀ (ς : Mem), out = .inr ς → ∀ (o0 o1 o2 o3 : Option AV), J l D dA H0 YV_begin h0 Po 0 0 (hp ς) 127 [o0, o1, o2, o3] []) : J l D dA H0 YV_begin h0 Po 0 0 (hp σ) 117 [some (vR (some (7, 0))), some (vI x1), some (vI x2), o3] [vI y0, vI y1, vR (some (7, 0))] := by
  unfold kV_begin_j117 at hk
  refine j_iadd (pc' := 118) rfl dX7_begin_117 ?_
  refine j_pi (pc' := 121) (ty := .int) fg_RX7_31 ttX7 rfl rfl ⟨rfl, rfl⟩ rfl (lt_b rfl) rfl rfl dX7_begin_118 ?_
  refine j_iinc (pc' := 124) (v := x2 + 1) rfl rfl (lt_b rfl) rfl rfl dX7_begin_121 ?_
  refine j_goto (tg := 23) rfl dX7_begin_124 ?_
  obtain rfl := Option.some.inj hk
  exact hc _ _ rfl _
theorem qV_begin_j116 {σ : Mem} {x1 : Int32} {x2 : Int32} {y0 : Int32} {o3 : Option AV} {out : Int32 × Mem ⊕ (Mem)} (hk : kV_begin_j116 σ x1 x2 y0 = some out) (hc : ∀ (z2 : Int32) (ς : Mem), out = .inl (z2, ς) → ∀ (o3 : Option AV), J l D dA H0 YV_begin h0 Po 0 0 (hp ς) 23 [some (vR (some (7, 0))), some (vI x1), some (vI z2), o3] []) (hx0 : ∀ (ς : Mem), out = .inr ς → ∀ (o0 o1 o2 o3 : Option AV), J l D dA H0 YV_begin h0 Po 0 0 (hp ς) 127 [o0, o1, o2, o3] []) : J l D dA H0 YV_begin h0 Po 0 0 (hp σ) 116 [some (vR (some (7, 0))), some (vI x1), some (vI x2), o3] [vI y0, vR (some (7, 0))] := by
  unfold kV_begin_j116 at hk
  refine j_iconst (pc' := 117) (v := 0) rfl rfl dX7_begin_116 ?_
  exact qV_begin_j117 hk hc hx0
theorem qV_begin_s23 {σ : Mem} {x1 : Int32} {x2 : Int32} {o3 : Option AV} {out : (Int32 × Mem) ⊕ (Mem)} (hk : kV_begin_s23 x1 (x2, σ) = some out) (hc : ∀ (z2 : Int32) (ς : Mem), out = .inl (z2, ς) → ∀ (o3 : Option AV), J l D dA H0 YV_begin h0 Po 0 0 (hp ς) 23 [some (vR (some (7, 0))), some (vI x1), some (vI z2), o3] []) (hx0 : ∀ (ς : Mem), out = .inr ς → ∀ (o0 o1 o2 o3 : Option AV), J l D dA H0 YV_begin h0 Po 0 0 (hp ς) 127 [o0, o1, o2, o3] []) : J l D dA H0 YV_begin h0 Po 0 0 (hp σ) 23 [some (vR (some (7, 0))), some (vI x1), some (vI x2), o3] [] := by
  unfold kV_begin_s23 at hk
  refine j_iload_n (pc' := 24) rfl rfl dX7_begin_23 ?_
  refine j_bipush (pc' := 26) (v := 16) rfl rfl dX7_begin_24 ?_
  refine j_ic_ge (pc' := 29) (tg := 127) rfl rfl dX7_begin_26 (fun c23 => ?_) (fun c23 => ?_)
  · have hk := (if_pos c23).symm.trans hk
    obtain rfl := Option.some.inj hk
    exact hx0 _ rfl _ _ _ _
  · have hk := (if_neg c23).symm.trans hk
    refine j_aload_n (pc' := 30) rfl rfl dX7_begin_29 ?_
    refine j_getf (pc' := 33) fg_RX7_9 (hp_e rfl) rfl rfl dX7_begin_30 ?_
    refine j_iload_n (pc' := 34) rfl rfl dX7_begin_33 ?_
    refine j_iconst (pc' := 35) (v := 0) rfl rfl dX7_begin_34 ?_
    obtain ⟨g5, hk⟩ := of_ite hk
    refine j_si (pc' := 36) (fun _ _ _ => rfl) (inR_in g5) rfl dX7_begin_35 ?_
    refine j_aload_n (pc' := 37) rfl rfl dX7_begin_36 ?_
    refine j_getf (pc' := 40) fg_RX7_21 (hp_e rfl) rfl rfl dX7_begin_37 ?_
    refine j_iload_n (pc' := 41) rfl rfl dX7_begin_40 ?_
    obtain ⟨⟨r6, σ7⟩, hx, hk⟩ := of_bind hk
    refine j_cv1 (pc' := 44) (LH_roomAt hx) cv_RX7_35 ⟨le_b rfl, le_b rfl⟩ (hp_e rfl) rfl rfl (le_b rfl) ⟨rfl, rfl⟩ ⟨le_b rfl, le_b rfl⟩ rfl rfl dX7_begin_41 ?_
    refine j_astore_n (pc' := 45) (lt_b rfl) rfl rfl dX7_begin_44 ?_
    refine j_aload_n (pc' := 46) rfl rfl dX7_begin_45 ?_
    rcases of_elim hk with ⟨hr, hk⟩ | ⟨j8, hr, hk⟩
    · subst hr
      refine j_ifnull (pc' := 49) (tg := 121) rfl rfl dX7_begin_46 (fun _ => ?_) (fun _ hh => by cases hh)
      refine j_iinc (pc' := 124) (v := x2 + 1) rfl rfl (lt_b rfl) rfl rfl dX7_begin_121 ?_
      refine j_goto (tg := 23) rfl dX7_begin_124 ?_
      obtain rfl := Option.some.inj hk
      exact hc _ _ rfl _
    · subst hr
      refine j_ifnull (pc' := 49) (tg := 121) rfl rfl dX7_begin_46 (fun hh => by cases hh) (fun _ _ => ?_)
      refine j_aload_n (pc' := 50) rfl rfl dX7_begin_49 ?_
      refine j_iload_n (pc' := 51) rfl rfl dX7_begin_50 ?_
      obtain ⟨⟨r9, σ10⟩, hx, hk⟩ := of_bind hk
      refine j_cv1 (pc' := 54) (LR_isOpen hx) cv_RX7_41 ⟨le_b rfl, le_b rfl⟩ (hp_e rfl) rfl rfl (le_b rfl) ⟨rfl, rfl⟩ ⟨le_b rfl, le_b rfl⟩ rfl rfl dX7_begin_51 ?_
      refine j_if_eq (pc' := 57) (tg := 121) rfl rfl dX7_begin_54 (fun c22 => ?_) (fun c22 => ?_)
      · have hk := (if_pos c22).symm.trans hk
        refine j_iinc (pc' := 124) (v := x2 + 1) rfl rfl (lt_b rfl) rfl rfl dX7_begin_121 ?_
        refine j_goto (tg := 23) rfl dX7_begin_124 ?_
        obtain rfl := Option.some.inj hk
        exact hc _ _ rfl _
      · have hk := (if_neg c22).symm.trans hk
        refine j_aload_n (pc' := 58) rfl rfl dX7_begin_57 ?_
        refine j_getf (pc' := 61) fg_RX7_9 (hp_e rfl) rfl rfl dX7_begin_58 ?_
        refine j_iload_n (pc' := 62) rfl rfl dX7_begin_61 ?_
        refine j_iconst (pc' := 63) (v := 1) rfl rfl dX7_begin_62 ?_
        refine j_aload_n (pc' := 64) rfl rfl dX7_begin_63 ?_
        obtain ⟨⟨r11, σ12⟩, hx, hk⟩ := of_bind hk
        refine j_cv1 (pc' := 67) (LR_units hx) cv_RX7_47 ⟨le_b rfl, le_b rfl⟩ (hp_e rfl) rfl rfl (le_b rfl) ⟨rfl, rfl⟩ ⟨le_b rfl, le_b rfl⟩ rfl rfl dX7_begin_64 ?_
        refine j_ishl (pc' := 68) rfl dX7_begin_67 ?_
        refine j_iconst (pc' := 69) (v := 1) rfl rfl dX7_begin_68 ?_
        refine j_isub (pc' := 70) rfl dX7_begin_69 ?_
        obtain ⟨g13, hk⟩ := of_ite hk
        refine j_si (pc' := 71) (fun _ _ _ => rfl) (inR_in g13) rfl dX7_begin_70 ?_
        refine j_aload_n (pc' := 72) rfl rfl dX7_begin_71 ?_
        refine j_getf (pc' := 75) fg_RX7_15 (hp_e rfl) rfl rfl dX7_begin_72 ?_
        refine j_aload_n (pc' := 76) rfl rfl dX7_begin_75 ?_
        refine j_getf (pc' := 79) fg_RX7_51 (hp_e rfl) rfl rfl dX7_begin_76 ?_
        refine j_dup2 (pc' := 80) rfl rfl rfl dX7_begin_79 ?_
        obtain ⟨g14, hk⟩ := of_ite hk
        refine j_iald (pc' := 81) (hp_e rfl) (inR_in g14) rfl dX7_begin_80 ?_
        refine j_aload_n (pc' := 82) rfl rfl dX7_begin_81 ?_
        obtain ⟨⟨r15, σ16⟩, hx, hk⟩ := of_bind hk
        refine j_cv1 (pc' := 85) (LR_units hx) cv_RX7_47 ⟨le_b rfl, le_b rfl⟩ (hp_e rfl) rfl rfl (le_b rfl) ⟨rfl, rfl⟩ ⟨le_b rfl, le_b rfl⟩ rfl rfl dX7_begin_82 ?_
        refine j_iadd (pc' := 86) rfl dX7_begin_85 ?_
        obtain ⟨g17, hk⟩ := of_ite hk
        refine j_si (pc' := 87) (fun _ _ _ => rfl) (inR_in g17) rfl dX7_begin_86 ?_
        refine j_aload_n (pc' := 88) rfl rfl dX7_begin_87 ?_
        refine j_dup (pc' := 89) rfl rfl dX7_begin_88 ?_
        refine j_getf (pc' := 92) fg_RX7_31 (hp_e rfl) rfl rfl dX7_begin_89 ?_
        refine j_aload_n (pc' := 93) rfl rfl dX7_begin_92 ?_
        refine j_getf (pc' := 96) fg_RX7_54 (hp_e rfl) rfl rfl dX7_begin_93 ?_
        refine j_iload_n (pc' := 97) rfl rfl dX7_begin_96 ?_
        refine j_ic_ge (pc' := 100) (tg := 116) rfl rfl dX7_begin_97 (fun c21 => ?_) (fun c21 => ?_)
        · have hk := (if_pos c21).symm.trans hk
          exact qV_begin_j116 hk hc hx0
        · have hk := (if_neg c21).symm.trans hk
          refine j_aload_n (pc' := 101) rfl rfl dX7_begin_100 ?_
          refine j_aload_n (pc' := 102) rfl rfl dX7_begin_101 ?_
          refine j_getf (pc' := 105) fg_RX7_54 (hp_e rfl) rfl rfl dX7_begin_102 ?_
          refine j_iconst (pc' := 106) (v := 0) rfl rfl dX7_begin_105 ?_
          obtain ⟨⟨r18, σ19⟩, hx, hk⟩ := of_bind hk
          refine j_cv1 (pc' := 109) (LV_isFree hx) cv_RX7_57 ⟨le_b rfl, le_b rfl⟩ (hp_e rfl) rfl rfl (le_b rfl) ⟨rfl, rfl⟩ ⟨le_b rfl, le_b rfl⟩ rfl rfl dX7_begin_106 ?_
          refine j_if_eq (pc' := 112) (tg := 116) rfl rfl dX7_begin_109 (fun c20 => ?_) (fun c20 => ?_)
          · have hk := (if_pos c20).symm.trans hk
            exact qV_begin_j116 hk hc hx0
          · have hk := (if_neg c20).symm.trans hk
            refine j_iconst (pc' := 113) (v := 1) rfl rfl dX7_begin_112 ?_
            refine j_goto (tg := 117) rfl dX7_begin_113 ?_
            exact qV_begin_j117 hk hc hx0
theorem lV_begin_s23 {x1 : Int32} : ∀ (n : Nat) (x2 : Int32) (σ : Mem) (e : (Mem)), loopF n (kV_begin_s23 x1) (x2, σ) = some e → (∀ (ς : Mem), e = ς → ∀ (o0 o1 o2 o3 : Option AV), J l D dA H0 YV_begin h0 Po 0 0 (hp ς) 127 [o0, o1, o2, o3] []) → ∀ (o3 : Option AV), J l D dA H0 YV_begin h0 Po 0 0 (hp σ) 23 [some (vR (some (7, 0))), some (vI x1), some (vI x2), o3] []
  | 0, x2, σ, e, he => by cases he
  | n + 1, x2, σ, e, he => by
    intro hx0 o3
    rcases loopF_succ he with ⟨s', h1, h2⟩ | h1
    · refine qV_begin_s23 h1 ?_ ?_
      · intro z2 ς ee
        cases ee
        exact lV_begin_s23 n z2 ς e h2 hx0
      · intro ς ee
        cases ee
    · refine qV_begin_s23 h1 ?_ ?_
      · intro z2 ς ee
        cases ee
      · intro ς ee
        exact hx0 ς (Sum.inr.inj ee)
theorem qV_begin_x127 {σ : Mem} {o0 : Option AV} {o1 : Option AV} {o2 : Option AV} {o3 : Option AV} {res : Unit × Mem} (hk : kV_begin_x127 σ = some res) (hP : Po none (hp res.2)) : J l D dA H0 YV_begin h0 Po 0 0 (hp σ) 127 [o0, o1, o2, o3] [] := by
  unfold kV_begin_x127 at hk
  obtain rfl := Option.some.inj hk
  exact j_ret rfl ⟨rfl, rfl⟩ dX7_begin_127 hP
theorem qV_begin {σ : Mem} {x1 : Int32} {o2 : Option AV} {o3 : Option AV} {res : Unit × Mem} (hk : kV_begin σ x1 = some res) (hP : Po none (hp res.2)) : J l D dA H0 YV_begin h0 Po 0 0 (hp σ) 0 [some (vR (some (7, 0))), some (vI x1), o2, o3] [] := by
  unfold kV_begin at hk
  refine j_aload_n (pc' := 1) rfl rfl dX7_begin_0 ?_
  refine j_getf (pc' := 4) fg_RX7_15 (hp_e rfl) rfl rfl dX7_begin_1 ?_
  refine j_iconst (pc' := 5) (v := 0) rfl rfl dX7_begin_4 ?_
  obtain ⟨⟨_, σ2⟩, hx, hk⟩ := of_bind hk
  refine j_cs0 (pc' := 8) (LJ_fill (fun _ _ _ => rfl) (lt_b rfl) hx) cs_RX7_25 ⟨le_b rfl, le_b rfl⟩ rfl (le_b rfl) ⟨rfl, rfl⟩ ⟨le_b rfl, le_b rfl⟩ rfl rfl dX7_begin_5 ?_
  refine j_aload_n (pc' := 9) rfl rfl dX7_begin_8 ?_
  refine j_getf (pc' := 12) fg_RX7_18 (hp_e rfl) rfl rfl dX7_begin_9 ?_
  refine j_iconst (pc' := 13) (v := 0) rfl rfl dX7_begin_12 ?_
  obtain ⟨⟨_, σ4⟩, hx, hk⟩ := of_bind hk
  refine j_cs0 (pc' := 16) (LJ_fill (fun _ _ _ => rfl) (lt_b rfl) hx) cs_RX7_25 ⟨le_b rfl, le_b rfl⟩ rfl (le_b rfl) ⟨rfl, rfl⟩ ⟨le_b rfl, le_b rfl⟩ rfl rfl dX7_begin_13 ?_
  refine j_aload_n (pc' := 17) rfl rfl dX7_begin_16 ?_
  refine j_iconst (pc' := 18) (v := 0) rfl rfl dX7_begin_17 ?_
  refine j_pi (pc' := 21) (ty := .int) fg_RX7_31 ttX7 rfl rfl ⟨rfl, rfl⟩ rfl (lt_b rfl) rfl rfl dX7_begin_18 ?_
  refine j_iconst (pc' := 22) (v := 0) rfl rfl dX7_begin_21 ?_
  refine j_istore_n (pc' := 23) (lt_b rfl) rfl rfl dX7_begin_22 ?_
  obtain ⟨e, he, hk⟩ := of_bind hk
  refine lV_begin_s23 FU _ _ e he ?_ _
  · intro ς ee _ _ _ _
    subst ee
    exact qV_begin_x127 hk hP
theorem LV_begin {σ σ' : Mem} {x1 : Int32} {r : Unit} (hk : kV_begin σ x1 = some (r, σ')) : M l D dA H0 yX7_begin YV_begin [vR (some (7, 0)), vI x1] (hp σ) (fun x h' => x = none ∧ h' = hp σ') :=
  m_of (j := 2) (by decide) rfl (fun hh => by cases hh) ⟨fun _ _ => trivial, rfl⟩ (le_b rfl) (qV_begin hk ⟨rfl, rfl⟩)
theorem qG_isWant {σ : Mem} {x0 : Int32} {res : Int32 × Mem} (hk : kG_isWant σ x0 = some res) (hP : Po (some (vI res.1)) (hp res.2)) : J l D dA H0 YG_isWant h0 Po 0 0 (hp σ) 0 [some (vI x0)] [] := by
  unfold kG_isWant at hk
  refine j_iload_n (pc' := 1) rfl rfl dX8_isWant_0 ?_
  refine j_if_lt (pc' := 4) (tg := 13) rfl rfl dX8_isWant_1 (fun c2 => ?_) (fun c2 => ?_)
  · have hk := (if_pos c2).symm.trans hk
    refine j_iconst (pc' := 14) (v := 0) rfl rfl dX8_isWant_13 ?_
    obtain rfl := Option.some.inj hk
    exact j_zret rfl rfl ⟨rfl, rfl⟩ dX8_isWant_14 hP
  · have hk := (if_neg c2).symm.trans hk
    refine j_iload_n (pc' := 5) rfl rfl dX8_isWant_4 ?_
    refine j_iconst (pc' := 6) (v := 5) rfl rfl dX8_isWant_5 ?_
    refine j_ic_ge (pc' := 9) (tg := 13) rfl rfl dX8_isWant_6 (fun c1 => ?_) (fun c1 => ?_)
    · have hk := (if_pos c1).symm.trans hk
      refine j_iconst (pc' := 14) (v := 0) rfl rfl dX8_isWant_13 ?_
      obtain rfl := Option.some.inj hk
      exact j_zret rfl rfl ⟨rfl, rfl⟩ dX8_isWant_14 hP
    · have hk := (if_neg c1).symm.trans hk
      refine j_iconst (pc' := 10) (v := 1) rfl rfl dX8_isWant_9 ?_
      refine j_goto (tg := 14) rfl dX8_isWant_10 ?_
      obtain rfl := Option.some.inj hk
      exact j_zret rfl rfl ⟨rfl, rfl⟩ dX8_isWant_14 hP
theorem LG_isWant {σ σ' : Mem} {x0 : Int32} {r : Int32} (hk : kG_isWant σ x0 = some (r, σ')) : M l D dA H0 yX8_isWant YG_isWant [vI x0] (hp σ) (fun x h' => x = some (vI r) ∧ h' = hp σ') :=
  m_of (j := 0) (by decide) rfl (fun hh => by cases hh) ⟨fun _ _ => trivial, rfl⟩ (le_b rfl) (qG_isWant hk ⟨rfl, rfl⟩)
theorem qV_addNeed {σ : Mem} {x1 : Int32} {res : Unit × Mem} (hk : kV_addNeed σ x1 = some res) (hP : Po none (hp res.2)) : J l D dA H0 YV_addNeed h0 Po 0 0 (hp σ) 0 [some (vR (some (7, 0))), some (vI x1)] [] := by
  unfold kV_addNeed at hk
  refine j_iload_n (pc' := 1) rfl rfl dX7_addNeed_0 ?_
  obtain ⟨⟨r1, σ2⟩, hx, hk⟩ := of_bind hk
  refine j_cs1 (pc' := 4) (LG_isWant hx) cs_RX7_61 ⟨le_b rfl, le_b rfl⟩ rfl (le_b rfl) ⟨rfl, rfl⟩ ⟨le_b rfl, le_b rfl⟩ rfl rfl dX7_addNeed_1 ?_
  refine j_if_eq (pc' := 7) (tg := 17) rfl rfl dX7_addNeed_4 (fun c5 => ?_) (fun c5 => ?_)
  · have hk := (if_pos c5).symm.trans hk
    obtain rfl := Option.some.inj hk
    exact j_ret rfl ⟨rfl, rfl⟩ dX7_addNeed_17 hP
  · have hk := (if_neg c5).symm.trans hk
    refine j_aload_n (pc' := 8) rfl rfl dX7_addNeed_7 ?_
    refine j_getf (pc' := 11) fg_RX7_18 (hp_e rfl) rfl rfl dX7_addNeed_8 ?_
    refine j_iload_n (pc' := 12) rfl rfl dX7_addNeed_11 ?_
    refine j_dup2 (pc' := 13) rfl rfl rfl dX7_addNeed_12 ?_
    obtain ⟨g3, hk⟩ := of_ite hk
    refine j_iald (pc' := 14) (hp_e rfl) (inR_in g3) rfl dX7_addNeed_13 ?_
    refine j_iconst (pc' := 15) (v := 1) rfl rfl dX7_addNeed_14 ?_
    refine j_iadd (pc' := 16) rfl dX7_addNeed_15 ?_
    obtain ⟨g4, hk⟩ := of_ite hk
    refine j_si (pc' := 17) (fun _ _ _ => rfl) (inR_in g4) rfl dX7_addNeed_16 ?_
    obtain rfl := Option.some.inj hk
    exact j_ret rfl ⟨rfl, rfl⟩ dX7_addNeed_17 hP
theorem LV_addNeed {σ σ' : Mem} {x1 : Int32} {r : Unit} (hk : kV_addNeed σ x1 = some (r, σ')) : M l D dA H0 yX7_addNeed YV_addNeed [vR (some (7, 0)), vI x1] (hp σ) (fun x h' => x = none ∧ h' = hp σ') :=
  m_of (j := 0) (by decide) rfl (fun hh => by cases hh) ⟨fun _ _ => trivial, rfl⟩ (le_b rfl) (qV_addNeed hk ⟨rfl, rfl⟩)
theorem qV_fits {σ : Mem} {o1 : Option AV} {o2 : Option AV} {o3 : Option AV} {o4 : Option AV} {res : Int32 × Mem} (hk : kV_fits σ = some res) (hP : Po (some (vI res.1)) (hp res.2)) : J l D dA H0 YV_fits h0 Po 0 0 (hp σ) 0 [some (vR (some (7, 0))), o1, o2, o3, o4] [] := by
  unfold kV_fits at hk
  refine j_aload_n (pc' := 1) rfl rfl dX7_fits_0 ?_
  refine j_getf (pc' := 4) fg_RX7_15 (hp_e rfl) rfl rfl dX7_fits_1 ?_
  refine j_iconst (pc' := 5) (v := 2) rfl rfl dX7_fits_4 ?_
  obtain ⟨g1, hk⟩ := of_ite hk
  refine j_iald (pc' := 6) (hp_e rfl) (inR_in g1) rfl dX7_fits_5 ?_
  refine j_istore_n (pc' := 7) (lt_b rfl) rfl rfl dX7_fits_6 ?_
  refine j_iload_n (pc' := 8) rfl rfl dX7_fits_7 ?_
  refine j_aload_n (pc' := 9) rfl rfl dX7_fits_8 ?_
  refine j_getf (pc' := 12) fg_RX7_15 (hp_e rfl) rfl rfl dX7_fits_9 ?_
  refine j_iconst (pc' := 13) (v := 1) rfl rfl dX7_fits_12 ?_
  obtain ⟨g2, hk⟩ := of_ite hk
  refine j_iald (pc' := 14) (hp_e rfl) (inR_in g2) rfl dX7_fits_13 ?_
  refine j_iadd (pc' := 15) rfl dX7_fits_14 ?_
  refine j_iconst (pc' := 16) (v := 2) rfl rfl dX7_fits_15 ?_
  refine j_aload_n (pc' := 17) rfl rfl dX7_fits_16 ?_
  refine j_getf (pc' := 20) fg_RX7_18 (hp_e rfl) rfl rfl dX7_fits_17 ?_
  refine j_iconst (pc' := 21) (v := 4) rfl rfl dX7_fits_20 ?_
  obtain ⟨g3, hk⟩ := of_ite hk
  refine j_iald (pc' := 22) (hp_e rfl) (inR_in g3) rfl dX7_fits_21 ?_
  refine j_imul (pc' := 23) rfl dX7_fits_22 ?_
  refine j_isub (pc' := 24) rfl dX7_fits_23 ?_
  refine j_istore_n (pc' := 25) (lt_b rfl) rfl rfl dX7_fits_24 ?_
  refine j_iload_n (pc' := 26) rfl rfl dX7_fits_25 ?_
  refine j_aload_n (pc' := 27) rfl rfl dX7_fits_26 ?_
  refine j_getf (pc' := 30) fg_RX7_15 (hp_e rfl) rfl rfl dX7_fits_27 ?_
  refine j_iconst (pc' := 31) (v := 0) rfl rfl dX7_fits_30 ?_
  obtain ⟨g4, hk⟩ := of_ite hk
  refine j_iald (pc' := 32) (hp_e rfl) (inR_in g4) rfl dX7_fits_31 ?_
  refine j_iadd (pc' := 33) rfl dX7_fits_32 ?_
  refine j_istore_n (pc' := 34) (lt_b rfl) rfl rfl dX7_fits_33 ?_
  refine j_aload_n (pc' := 35) rfl rfl dX7_fits_34 ?_
  refine j_getf (pc' := 38) fg_RX7_18 (hp_e rfl) rfl rfl dX7_fits_35 ?_
  refine j_iconst (pc' := 39) (v := 3) rfl rfl dX7_fits_38 ?_
  obtain ⟨g5, hk⟩ := of_ite hk
  refine j_iald (pc' := 40) (hp_e rfl) (inR_in g5) rfl dX7_fits_39 ?_
  refine j_aload_n (pc' := 41) rfl rfl dX7_fits_40 ?_
  refine j_getf (pc' := 44) fg_RX7_18 (hp_e rfl) rfl rfl dX7_fits_41 ?_
  refine j_iconst (pc' := 45) (v := 2) rfl rfl dX7_fits_44 ?_
  obtain ⟨g6, hk⟩ := of_ite hk
  refine j_iald (pc' := 46) (hp_e rfl) (inR_in g6) rfl dX7_fits_45 ?_
  refine j_iadd (pc' := 47) rfl dX7_fits_46 ?_
  refine j_istore (pc' := 49) (lt_b rfl) rfl rfl dX7_fits_47 ?_
  refine j_aload_n (pc' := 50) rfl rfl dX7_fits_49 ?_
  refine j_getf (pc' := 53) fg_RX7_18 (hp_e rfl) rfl rfl dX7_fits_50 ?_
  refine j_iconst (pc' := 54) (v := 0) rfl rfl dX7_fits_53 ?_
  obtain ⟨g7, hk⟩ := of_ite hk
  refine j_iald (pc' := 55) (hp_e rfl) (inR_in g7) rfl dX7_fits_54 ?_
  refine j_aload_n (pc' := 56) rfl rfl dX7_fits_55 ?_
  refine j_getf (pc' := 59) fg_RX7_15 (hp_e rfl) rfl rfl dX7_fits_56 ?_
  refine j_iconst (pc' := 60) (v := 3) rfl rfl dX7_fits_59 ?_
  obtain ⟨g8, hk⟩ := of_ite hk
  refine j_iald (pc' := 61) (hp_e rfl) (inR_in g8) rfl dX7_fits_60 ?_
  refine j_ic_gt (pc' := 64) (tg := 110) rfl rfl dX7_fits_61 (fun c16 => ?_) (fun c16 => ?_)
  · have hk := (if_pos c16).symm.trans hk
    refine j_iconst (pc' := 111) (v := 0) rfl rfl dX7_fits_110 ?_
    obtain rfl := Option.some.inj hk
    exact j_zret rfl rfl ⟨rfl, rfl⟩ dX7_fits_111 hP
  · have hk := (if_neg c16).symm.trans hk
    refine j_aload_n (pc' := 65) rfl rfl dX7_fits_64 ?_
    refine j_getf (pc' := 68) fg_RX7_18 (hp_e rfl) rfl rfl dX7_fits_65 ?_
    refine j_iconst (pc' := 69) (v := 4) rfl rfl dX7_fits_68 ?_
    obtain ⟨g9, hk⟩ := of_ite hk
    refine j_iald (pc' := 70) (hp_e rfl) (inR_in g9) rfl dX7_fits_69 ?_
    refine j_aload_n (pc' := 71) rfl rfl dX7_fits_70 ?_
    refine j_getf (pc' := 74) fg_RX7_31 (hp_e rfl) rfl rfl dX7_fits_71 ?_
    refine j_ic_gt (pc' := 77) (tg := 110) rfl rfl dX7_fits_74 (fun c15 => ?_) (fun c15 => ?_)
    · have hk := (if_pos c15).symm.trans hk
      refine j_iconst (pc' := 111) (v := 0) rfl rfl dX7_fits_110 ?_
      obtain rfl := Option.some.inj hk
      exact j_zret rfl rfl ⟨rfl, rfl⟩ dX7_fits_111 hP
    · have hk := (if_neg c15).symm.trans hk
      refine j_aload_n (pc' := 78) rfl rfl dX7_fits_77 ?_
      refine j_getf (pc' := 81) fg_RX7_18 (hp_e rfl) rfl rfl dX7_fits_78 ?_
      refine j_iconst (pc' := 82) (v := 3) rfl rfl dX7_fits_81 ?_
      obtain ⟨g10, hk⟩ := of_ite hk
      refine j_iald (pc' := 83) (hp_e rfl) (inR_in g10) rfl dX7_fits_82 ?_
      refine j_iload_n (pc' := 84) rfl rfl dX7_fits_83 ?_
      refine j_ic_gt (pc' := 87) (tg := 110) rfl rfl dX7_fits_84 (fun c14 => ?_) (fun c14 => ?_)
      · have hk := (if_pos c14).symm.trans hk
        refine j_iconst (pc' := 111) (v := 0) rfl rfl dX7_fits_110 ?_
        obtain rfl := Option.some.inj hk
        exact j_zret rfl rfl ⟨rfl, rfl⟩ dX7_fits_111 hP
      · have hk := (if_neg c14).symm.trans hk
        refine j_iload (pc' := 89) rfl rfl dX7_fits_87 ?_
        refine j_iload_n (pc' := 90) rfl rfl dX7_fits_89 ?_
        refine j_ic_gt (pc' := 93) (tg := 110) rfl rfl dX7_fits_90 (fun c13 => ?_) (fun c13 => ?_)
        · have hk := (if_pos c13).symm.trans hk
          refine j_iconst (pc' := 111) (v := 0) rfl rfl dX7_fits_110 ?_
          obtain rfl := Option.some.inj hk
          exact j_zret rfl rfl ⟨rfl, rfl⟩ dX7_fits_111 hP
        · have hk := (if_neg c13).symm.trans hk
          refine j_iload (pc' := 95) rfl rfl dX7_fits_93 ?_
          refine j_aload_n (pc' := 96) rfl rfl dX7_fits_95 ?_
          refine j_getf (pc' := 99) fg_RX7_18 (hp_e rfl) rfl rfl dX7_fits_96 ?_
          refine j_iconst (pc' := 100) (v := 1) rfl rfl dX7_fits_99 ?_
          obtain ⟨g11, hk⟩ := of_ite hk
          refine j_iald (pc' := 101) (hp_e rfl) (inR_in g11) rfl dX7_fits_100 ?_
          refine j_iadd (pc' := 102) rfl dX7_fits_101 ?_
          refine j_iload_n (pc' := 103) rfl rfl dX7_fits_102 ?_
          refine j_ic_gt (pc' := 106) (tg := 110) rfl rfl dX7_fits_103 (fun c12 => ?_) (fun c12 => ?_)
          · have hk := (if_pos c12).symm.trans hk
            refine j_iconst (pc' := 111) (v := 0) rfl rfl dX7_fits_110 ?_
            obtain rfl := Option.some.inj hk
            exact j_zret rfl rfl ⟨rfl, rfl⟩ dX7_fits_111 hP
          · have hk := (if_neg c12).symm.trans hk
            refine j_iconst (pc' := 107) (v := 1) rfl rfl dX7_fits_106 ?_
            refine j_goto (tg := 111) rfl dX7_fits_107 ?_
            obtain rfl := Option.some.inj hk
            exact j_zret rfl rfl ⟨rfl, rfl⟩ dX7_fits_111 hP
theorem LV_fits {σ σ' : Mem} {r : Int32} (hk : kV_fits σ = some (r, σ')) : M l D dA H0 yX7_fits YV_fits [vR (some (7, 0))] (hp σ) (fun x h' => x = some (vI r) ∧ h' = hp σ') :=
  m_of (j := 4) (by decide) rfl (fun hh => by cases hh) ⟨fun _ _ => trivial, rfl⟩ (le_b rfl) (qV_fits hk ⟨rfl, rfl⟩)
theorem qV_dropNeed {σ : Mem} {x1 : Int32} {res : Unit × Mem} (hk : kV_dropNeed σ x1 = some res) (hP : Po none (hp res.2)) : J l D dA H0 YV_dropNeed h0 Po 0 0 (hp σ) 0 [some (vR (some (7, 0))), some (vI x1)] [] := by
  unfold kV_dropNeed at hk
  refine j_iload_n (pc' := 1) rfl rfl dX7_dropNeed_0 ?_
  obtain ⟨⟨r1, σ2⟩, hx, hk⟩ := of_bind hk
  refine j_cs1 (pc' := 4) (LG_isWant hx) cs_RX7_61 ⟨le_b rfl, le_b rfl⟩ rfl (le_b rfl) ⟨rfl, rfl⟩ ⟨le_b rfl, le_b rfl⟩ rfl rfl dX7_dropNeed_1 ?_
  refine j_if_eq (pc' := 7) (tg := 17) rfl rfl dX7_dropNeed_4 (fun c5 => ?_) (fun c5 => ?_)
  · have hk := (if_pos c5).symm.trans hk
    obtain rfl := Option.some.inj hk
    exact j_ret rfl ⟨rfl, rfl⟩ dX7_dropNeed_17 hP
  · have hk := (if_neg c5).symm.trans hk
    refine j_aload_n (pc' := 8) rfl rfl dX7_dropNeed_7 ?_
    refine j_getf (pc' := 11) fg_RX7_18 (hp_e rfl) rfl rfl dX7_dropNeed_8 ?_
    refine j_iload_n (pc' := 12) rfl rfl dX7_dropNeed_11 ?_
    refine j_dup2 (pc' := 13) rfl rfl rfl dX7_dropNeed_12 ?_
    obtain ⟨g3, hk⟩ := of_ite hk
    refine j_iald (pc' := 14) (hp_e rfl) (inR_in g3) rfl dX7_dropNeed_13 ?_
    refine j_iconst (pc' := 15) (v := 1) rfl rfl dX7_dropNeed_14 ?_
    refine j_isub (pc' := 16) rfl dX7_dropNeed_15 ?_
    obtain ⟨g4, hk⟩ := of_ite hk
    refine j_si (pc' := 17) (fun _ _ _ => rfl) (inR_in g4) rfl dX7_dropNeed_16 ?_
    obtain rfl := Option.some.inj hk
    exact j_ret rfl ⟨rfl, rfl⟩ dX7_dropNeed_17 hP
theorem LV_dropNeed {σ σ' : Mem} {x1 : Int32} {r : Unit} (hk : kV_dropNeed σ x1 = some (r, σ')) : M l D dA H0 yX7_dropNeed YV_dropNeed [vR (some (7, 0)), vI x1] (hp σ) (fun x h' => x = none ∧ h' = hp σ') :=
  m_of (j := 0) (by decide) rfl (fun hh => by cases hh) ⟨fun _ _ => trivial, rfl⟩ (le_b rfl) (qV_dropNeed hk ⟨rfl, rfl⟩)
theorem qP_keepThose_s2 {σ : Mem} {x1 : Int32} {x2 : Int32} {o3 : Option AV} {out : (Int32 × Mem) ⊕ (Mem)} (hk : kP_keepThose_s2 x1 (x2, σ) = some out) (hc : ∀ (z2 : Int32) (ς : Mem), out = .inl (z2, ς) → ∀ (o3 : Option AV), J l D dA H0 YP_keepThose h0 Po 0 0 (hp ς) 2 [some (vR (some (11, 0))), some (vI x1), some (vI z2), o3] []) (hx0 : ∀ (ς : Mem), out = .inr ς → ∀ (o0 o1 o2 o3 : Option AV), J l D dA H0 YP_keepThose h0 Po 0 0 (hp ς) 88 [o0, o1, o2, o3] []) : J l D dA H0 YP_keepThose h0 Po 0 0 (hp σ) 2 [some (vR (some (11, 0))), some (vI x1), some (vI x2), o3] [] := by
  unfold kP_keepThose_s2 at hk
  refine j_iload_n (pc' := 3) rfl rfl dX2_keepThose_2 ?_
  refine j_aload_n (pc' := 4) rfl rfl dX2_keepThose_3 ?_
  refine j_getf (pc' := 7) fg_RX2_37 (hp_e rfl) rfl rfl dX2_keepThose_4 ?_
  refine j_ic_ge (pc' := 10) (tg := 88) rfl rfl dX2_keepThose_7 (fun c14 => ?_) (fun c14 => ?_)
  · have hk := (if_pos c14).symm.trans hk
    obtain rfl := Option.some.inj hk
    exact hx0 _ rfl _ _ _ _
  · have hk := (if_neg c14).symm.trans hk
    refine j_iload_n (pc' := 11) rfl rfl dX2_keepThose_10 ?_
    refine j_bipush (pc' := 13) (v := 40) rfl rfl dX2_keepThose_11 ?_
    refine j_ic_ge (pc' := 16) (tg := 88) rfl rfl dX2_keepThose_13 (fun c13 => ?_) (fun c13 => ?_)
    · have hk := (if_pos c13).symm.trans hk
      obtain rfl := Option.some.inj hk
      exact hx0 _ rfl _ _ _ _
    · have hk := (if_neg c13).symm.trans hk
      refine j_aload_n (pc' := 17) rfl rfl dX2_keepThose_16 ?_
      refine j_getf (pc' := 20) fg_RX2_11 (hp_e rfl) rfl rfl dX2_keepThose_17 ?_
      refine j_iload_n (pc' := 21) rfl rfl dX2_keepThose_20 ?_
      obtain ⟨g1, hk⟩ := of_ite hk
      refine j_aald (pc' := 22) ⟨le_b rfl, lt_b rfl⟩ (hp_e rfl) (inR_in g1) rfl dX2_keepThose_21 ?_
      rcases of_elim hk with ⟨hr, hk⟩ | ⟨j2, hr, hk⟩
      · refine j_top (v' := vR none) (congrArg (fun o => vR (Option.map (Prod.mk 21) o)) hr) ?_
        refine j_astore_n (pc' := 23) (lt_b rfl) rfl rfl dX2_keepThose_22 ?_
        refine j_aload_n (pc' := 24) rfl rfl dX2_keepThose_23 ?_
        refine j_ifnull (pc' := 27) (tg := 82) rfl rfl dX2_keepThose_24 (fun _ => ?_) (fun _ hh => by cases hh)
        refine j_iinc (pc' := 85) (v := x2 + 1) rfl rfl (lt_b rfl) rfl rfl dX2_keepThose_82 ?_
        refine j_goto (tg := 2) rfl dX2_keepThose_85 ?_
        obtain rfl := Option.some.inj hk
        exact hc _ _ rfl _
      · refine j_top (v' := vR (some (21, j2))) (congrArg (fun o => vR (Option.map (Prod.mk 21) o)) hr) ?_
        refine j_astore_n (pc' := 23) (lt_b rfl) rfl rfl dX2_keepThose_22 ?_
        refine j_aload_n (pc' := 24) rfl rfl dX2_keepThose_23 ?_
        refine j_ifnull (pc' := 27) (tg := 82) rfl rfl dX2_keepThose_24 (fun hh => by cases hh) (fun _ _ => ?_)
        refine j_aload_n (pc' := 28) rfl rfl dX2_keepThose_27 ?_
        refine j_getf (pc' := 31) fg_RX2_88 (hp_e rfl) rfl rfl dX2_keepThose_28 ?_
        refine j_iload_n (pc' := 32) rfl rfl dX2_keepThose_31 ?_
        refine j_ic_eq (pc' := 35) (tg := 38) rfl rfl dX2_keepThose_32 (fun c12 => ?_) (fun c12 => ?_)
        · have hk := (if_pos c12).symm.trans hk
          refine j_aload_n (pc' := 39) rfl rfl dX2_keepThose_38 ?_
          refine j_getf (pc' := 42) fg_RX2_29 (hp_e rfl) rfl rfl dX2_keepThose_39 ?_
          refine j_aload_n (pc' := 43) rfl rfl dX2_keepThose_42 ?_
          refine j_getf (pc' := 46) fg_RX2_61 (hp_e rfl) rfl rfl dX2_keepThose_43 ?_
          obtain ⟨⟨_, σ4⟩, hx, hk⟩ := of_bind hk
          refine j_cv0 (pc' := 49) (LV_addNeed hx) cv_RX2_91 ⟨le_b rfl, le_b rfl⟩ (hp_e rfl) rfl rfl (le_b rfl) ⟨rfl, rfl⟩ ⟨le_b rfl, le_b rfl⟩ rfl rfl dX2_keepThose_46 ?_
          refine j_aload_n (pc' := 50) rfl rfl dX2_keepThose_49 ?_
          refine j_getf (pc' := 53) fg_RX2_17 (hp_e rfl) rfl rfl dX2_keepThose_50 ?_
          refine j_iload_n (pc' := 54) rfl rfl dX2_keepThose_53 ?_
          refine j_aload_n (pc' := 55) rfl rfl dX2_keepThose_54 ?_
          refine j_getf (pc' := 58) fg_RX2_29 (hp_e rfl) rfl rfl dX2_keepThose_55 ?_
          obtain ⟨⟨r5, σ6⟩, hx, hk⟩ := of_bind hk
          refine j_cv1 (pc' := 61) (LV_fits hx) cv_RX2_94 ⟨le_b rfl, le_b rfl⟩ (hp_e rfl) rfl rfl (le_b rfl) ⟨rfl, rfl⟩ ⟨le_b rfl, le_b rfl⟩ rfl rfl dX2_keepThose_58 ?_
          obtain ⟨g7, hk⟩ := of_ite hk
          refine j_sz (pc' := 62) (fun _ _ _ => rfl) (inR_in g7) rfl dX2_keepThose_61 ?_
          refine j_aload_n (pc' := 63) rfl rfl dX2_keepThose_62 ?_
          refine j_getf (pc' := 66) fg_RX2_17 (hp_e rfl) rfl rfl dX2_keepThose_63 ?_
          refine j_iload_n (pc' := 67) rfl rfl dX2_keepThose_66 ?_
          obtain ⟨g8, hk⟩ := of_ite hk
          refine j_bald (pc' := 68) (hp_e rfl) (inR_in g8) rfl dX2_keepThose_67 ?_
          refine j_if_ne (pc' := 71) (tg := 82) rfl rfl dX2_keepThose_68 (fun c11 => ?_) (fun c11 => ?_)
          · have hk := (if_neg c11).symm.trans hk
            refine j_iinc (pc' := 85) (v := x2 + 1) rfl rfl (lt_b rfl) rfl rfl dX2_keepThose_82 ?_
            refine j_goto (tg := 2) rfl dX2_keepThose_85 ?_
            obtain rfl := Option.some.inj hk
            exact hc _ _ rfl _
          · have hk := (if_pos c11).symm.trans hk
            refine j_aload_n (pc' := 72) rfl rfl dX2_keepThose_71 ?_
            refine j_getf (pc' := 75) fg_RX2_29 (hp_e rfl) rfl rfl dX2_keepThose_72 ?_
            refine j_aload_n (pc' := 76) rfl rfl dX2_keepThose_75 ?_
            refine j_getf (pc' := 79) fg_RX2_61 (hp_e rfl) rfl rfl dX2_keepThose_76 ?_
            obtain ⟨⟨_, σ10⟩, hx, hk⟩ := of_bind hk
            refine j_cv0 (pc' := 82) (LV_dropNeed hx) cv_RX2_97 ⟨le_b rfl, le_b rfl⟩ (hp_e rfl) rfl rfl (le_b rfl) ⟨rfl, rfl⟩ ⟨le_b rfl, le_b rfl⟩ rfl rfl dX2_keepThose_79 ?_
            refine j_iinc (pc' := 85) (v := x2 + 1) rfl rfl (lt_b rfl) rfl rfl dX2_keepThose_82 ?_
            refine j_goto (tg := 2) rfl dX2_keepThose_85 ?_
            obtain rfl := Option.some.inj hk
            exact hc _ _ rfl _
        · have hk := (if_neg c12).symm.trans hk
          refine j_goto (tg := 82) rfl dX2_keepThose_35 ?_
          refine j_iinc (pc' := 85) (v := x2 + 1) rfl rfl (lt_b rfl) rfl rfl dX2_keepThose_82 ?_
          refine j_goto (tg := 2) rfl dX2_keepThose_85 ?_
          obtain rfl := Option.some.inj hk
          exact hc _ _ rfl _
theorem lP_keepThose_s2 {x1 : Int32} : ∀ (n : Nat) (x2 : Int32) (σ : Mem) (e : (Mem)), loopF n (kP_keepThose_s2 x1) (x2, σ) = some e → (∀ (ς : Mem), e = ς → ∀ (o0 o1 o2 o3 : Option AV), J l D dA H0 YP_keepThose h0 Po 0 0 (hp ς) 88 [o0, o1, o2, o3] []) → ∀ (o3 : Option AV), J l D dA H0 YP_keepThose h0 Po 0 0 (hp σ) 2 [some (vR (some (11, 0))), some (vI x1), some (vI x2), o3] []
  | 0, x2, σ, e, he => by cases he
  | n + 1, x2, σ, e, he => by
    intro hx0 o3
    rcases loopF_succ he with ⟨s', h1, h2⟩ | h1
    · refine qP_keepThose_s2 h1 ?_ ?_
      · intro z2 ς ee
        cases ee
        exact lP_keepThose_s2 n z2 ς e h2 hx0
      · intro ς ee
        cases ee
    · refine qP_keepThose_s2 h1 ?_ ?_
      · intro z2 ς ee
        cases ee
      · intro ς ee
        exact hx0 ς (Sum.inr.inj ee)
theorem qP_keepThose_x88 {σ : Mem} {o0 : Option AV} {o1 : Option AV} {o2 : Option AV} {o3 : Option AV} {res : Unit × Mem} (hk : kP_keepThose_x88 σ = some res) (hP : Po none (hp res.2)) : J l D dA H0 YP_keepThose h0 Po 0 0 (hp σ) 88 [o0, o1, o2, o3] [] := by
  unfold kP_keepThose_x88 at hk
  obtain rfl := Option.some.inj hk
  exact j_ret rfl ⟨rfl, rfl⟩ dX2_keepThose_88 hP
theorem qP_keepThose {σ : Mem} {x1 : Int32} {o2 : Option AV} {o3 : Option AV} {res : Unit × Mem} (hk : kP_keepThose σ x1 = some res) (hP : Po none (hp res.2)) : J l D dA H0 YP_keepThose h0 Po 0 0 (hp σ) 0 [some (vR (some (11, 0))), some (vI x1), o2, o3] [] := by
  unfold kP_keepThose at hk
  refine j_iconst (pc' := 1) (v := 0) rfl rfl dX2_keepThose_0 ?_
  refine j_istore_n (pc' := 2) (lt_b rfl) rfl rfl dX2_keepThose_1 ?_
  obtain ⟨e, he, hk⟩ := of_bind hk
  refine lP_keepThose_s2 FU _ _ e he ?_ _
  · intro ς ee _ _ _ _
    subst ee
    exact qP_keepThose_x88 hk hP
theorem LP_keepThose {σ σ' : Mem} {x1 : Int32} {r : Unit} (hk : kP_keepThose σ x1 = some (r, σ')) : M l D dA H0 yX2_keepThose YP_keepThose [vR (some (11, 0)), vI x1] (hp σ) (fun x h' => x = none ∧ h' = hp σ') :=
  m_of (j := 2) (by decide) rfl (fun hh => by cases hh) ⟨fun _ _ => trivial, rfl⟩ (le_b rfl) (qP_keepThose hk ⟨rfl, rfl⟩)
theorem qG_placeOf {σ : Mem} {x0 : Int32} {res : Int32 × Mem} (hk : kG_placeOf σ x0 = some res) (hP : Po (some (vI res.1)) (hp res.2)) : J l D dA H0 YG_placeOf h0 Po 0 0 (hp σ) 0 [some (vI x0)] [] := by
  unfold kG_placeOf at hk
  refine j_iload_n (pc' := 1) rfl rfl dX8_placeOf_0 ?_
  refine j_iconst (pc' := 2) (v := 5) rfl rfl dX8_placeOf_1 ?_
  refine j_ishr (pc' := 3) rfl dX8_placeOf_2 ?_
  obtain rfl := Option.some.inj hk
  exact j_iret rfl ⟨rfl, rfl⟩ dX8_placeOf_3 hP
theorem LG_placeOf {σ σ' : Mem} {x0 : Int32} {r : Int32} (hk : kG_placeOf σ x0 = some (r, σ')) : M l D dA H0 yX8_placeOf YG_placeOf [vI x0] (hp σ) (fun x h' => x = some (vI r) ∧ h' = hp σ') :=
  m_of (j := 0) (by decide) rfl (fun hh => by cases hh) ⟨fun _ _ => trivial, rfl⟩ (le_b rfl) (qG_placeOf hk ⟨rfl, rfl⟩)
theorem qG_bedOf {σ : Mem} {x0 : Int32} {res : Int32 × Mem} (hk : kG_bedOf σ x0 = some res) (hP : Po (some (vI res.1)) (hp res.2)) : J l D dA H0 YG_bedOf h0 Po 0 0 (hp σ) 0 [some (vI x0)] [] := by
  unfold kG_bedOf at hk
  refine j_iload_n (pc' := 1) rfl rfl dX8_bedOf_0 ?_
  refine j_iconst (pc' := 2) (v := 2) rfl rfl dX8_bedOf_1 ?_
  refine j_ishr (pc' := 3) rfl dX8_bedOf_2 ?_
  refine j_bipush (pc' := 5) (v := 7) rfl rfl dX8_bedOf_3 ?_
  refine j_iand (pc' := 6) rfl dX8_bedOf_5 ?_
  obtain rfl := Option.some.inj hk
  exact j_iret rfl ⟨rfl, rfl⟩ dX8_bedOf_6 hP
theorem LG_bedOf {σ σ' : Mem} {x0 : Int32} {r : Int32} (hk : kG_bedOf σ x0 = some (r, σ')) : M l D dA H0 yX8_bedOf YG_bedOf [vI x0] (hp σ) (fun x h' => x = some (vI r) ∧ h' = hp σ') :=
  m_of (j := 0) (by decide) rfl (fun hh => by cases hh) ⟨fun _ _ => trivial, rfl⟩ (le_b rfl) (qG_bedOf hk ⟨rfl, rfl⟩)
theorem qG_isSuite {σ : Mem} {x0 : Int32} {res : Int32 × Mem} (hk : kG_isSuite σ x0 = some res) (hP : Po (some (vI res.1)) (hp res.2)) : J l D dA H0 YG_isSuite h0 Po 0 0 (hp σ) 0 [some (vI x0)] [] := by
  unfold kG_isSuite at hk
  refine j_iload_n (pc' := 1) rfl rfl dX8_isSuite_0 ?_
  refine j_if_lt (pc' := 4) (tg := 15) rfl rfl dX8_isSuite_1 (fun c2 => ?_) (fun c2 => ?_)
  · have hk := (if_pos c2).symm.trans hk
    refine j_iconst (pc' := 16) (v := 0) rfl rfl dX8_isSuite_15 ?_
    obtain rfl := Option.some.inj hk
    exact j_zret rfl rfl ⟨rfl, rfl⟩ dX8_isSuite_16 hP
  · have hk := (if_neg c2).symm.trans hk
    refine j_iload_n (pc' := 5) rfl rfl dX8_isSuite_4 ?_
    refine j_iconst (pc' := 6) (v := 1) rfl rfl dX8_isSuite_5 ?_
    refine j_iand (pc' := 7) rfl dX8_isSuite_6 ?_
    refine j_iconst (pc' := 8) (v := 1) rfl rfl dX8_isSuite_7 ?_
    refine j_ic_ne (pc' := 11) (tg := 15) rfl rfl dX8_isSuite_8 (fun c1 => ?_) (fun c1 => ?_)
    · have hk := (if_neg c1).symm.trans hk
      refine j_iconst (pc' := 16) (v := 0) rfl rfl dX8_isSuite_15 ?_
      obtain rfl := Option.some.inj hk
      exact j_zret rfl rfl ⟨rfl, rfl⟩ dX8_isSuite_16 hP
    · have hk := (if_pos c1).symm.trans hk
      refine j_iconst (pc' := 12) (v := 1) rfl rfl dX8_isSuite_11 ?_
      refine j_goto (tg := 16) rfl dX8_isSuite_12 ?_
      obtain rfl := Option.some.inj hk
      exact j_zret rfl rfl ⟨rfl, rfl⟩ dX8_isSuite_16 hP
theorem LG_isSuite {σ σ' : Mem} {x0 : Int32} {r : Int32} (hk : kG_isSuite σ x0 = some (r, σ')) : M l D dA H0 yX8_isSuite YG_isSuite [vI x0] (hp σ) (fun x h' => x = some (vI r) ∧ h' = hp σ') :=
  m_of (j := 0) (by decide) rfl (fun hh => by cases hh) ⟨fun _ _ => trivial, rfl⟩ (le_b rfl) (qG_isSuite hk ⟨rfl, rfl⟩)
theorem qV_turn {σ : Mem} {x1 : Int32} {x2 : Int32} {x3 : Int32} {o4 : Option AV} {res : Unit × Mem} (hk : kV_turn σ x1 x2 x3 = some res) (hP : Po none (hp res.2)) : J l D dA H0 YV_turn h0 Po 0 0 (hp σ) 0 [some (vR (some (7, 0))), some (vI x1), some (vI x2), some (vI x3), o4] [] := by
  unfold kV_turn at hk
  refine j_aload_n (pc' := 1) rfl rfl dX7_turn_0 ?_
  refine j_getf (pc' := 4) fg_RX7_21 (hp_e rfl) rfl rfl dX7_turn_1 ?_
  refine j_iload_n (pc' := 5) rfl rfl dX7_turn_4 ?_
  obtain ⟨⟨r1, σ2⟩, hx, hk⟩ := of_bind hk
  refine j_cv1 (pc' := 8) (LH_roomAt hx) cv_RX7_35 ⟨le_b rfl, le_b rfl⟩ (hp_e rfl) rfl rfl (le_b rfl) ⟨rfl, rfl⟩ ⟨le_b rfl, le_b rfl⟩ rfl rfl dX7_turn_5 ?_
  refine j_astore (pc' := 10) (lt_b rfl) rfl rfl dX7_turn_8 ?_
  refine j_aload (pc' := 12) rfl rfl dX7_turn_10 ?_
  rcases of_elim hk with ⟨hr, hk⟩ | ⟨j3, hr, hk⟩
  · subst hr
    refine j_ifnull (pc' := 15) (tg := 25) rfl rfl dX7_turn_12 (fun _ => ?_) (fun _ hh => by cases hh)
    obtain rfl := Option.some.inj hk
    exact j_ret rfl ⟨rfl, rfl⟩ dX7_turn_25 hP
  · subst hr
    refine j_ifnull (pc' := 15) (tg := 25) rfl rfl dX7_turn_12 (fun hh => by cases hh) (fun _ _ => ?_)
    refine j_iload_n (pc' := 16) rfl rfl dX7_turn_15 ?_
    refine j_if_lt (pc' := 19) (tg := 25) rfl rfl dX7_turn_16 (fun c12 => ?_) (fun c12 => ?_)
    · have hk := (if_pos c12).symm.trans hk
      obtain rfl := Option.some.inj hk
      exact j_ret rfl ⟨rfl, rfl⟩ dX7_turn_25 hP
    · have hk := (if_neg c12).symm.trans hk
      refine j_iload_n (pc' := 20) rfl rfl dX7_turn_19 ?_
      refine j_bipush (pc' := 22) (v := 16) rfl rfl dX7_turn_20 ?_
      refine j_ic_lt (pc' := 25) (tg := 26) rfl rfl dX7_turn_22 (fun c11 => ?_) (fun c11 => ?_)
      · have hk := (if_pos c11).symm.trans hk
        refine j_aload_n (pc' := 27) rfl rfl dX7_turn_26 ?_
        refine j_getf (pc' := 30) fg_RX7_9 (hp_e rfl) rfl rfl dX7_turn_27 ?_
        refine j_iload_n (pc' := 31) rfl rfl dX7_turn_30 ?_
        refine j_dup2 (pc' := 32) rfl rfl rfl dX7_turn_31 ?_
        obtain ⟨g4, hk⟩ := of_ite hk
        refine j_iald (pc' := 33) (hp_e rfl) (inR_in g4) rfl dX7_turn_32 ?_
        refine j_iconst (pc' := 34) (v := 1) rfl rfl dX7_turn_33 ?_
        refine j_iload_n (pc' := 35) rfl rfl dX7_turn_34 ?_
        refine j_ishl (pc' := 36) rfl dX7_turn_35 ?_
        refine j_ixor (pc' := 37) rfl dX7_turn_36 ?_
        obtain ⟨g5, hk⟩ := of_ite hk
        refine j_si (pc' := 38) (fun _ _ _ => rfl) (inR_in g5) rfl dX7_turn_37 ?_
        refine j_aload_n (pc' := 39) rfl rfl dX7_turn_38 ?_
        refine j_getf (pc' := 42) fg_RX7_15 (hp_e rfl) rfl rfl dX7_turn_39 ?_
        refine j_aload (pc' := 44) rfl rfl dX7_turn_42 ?_
        refine j_getf (pc' := 47) fg_RX7_51 (hp_e rfl) rfl rfl dX7_turn_44 ?_
        refine j_dup2 (pc' := 48) rfl rfl rfl dX7_turn_47 ?_
        obtain ⟨g6, hk⟩ := of_ite hk
        refine j_iald (pc' := 49) (hp_e rfl) (inR_in g6) rfl dX7_turn_48 ?_
        refine j_iload_n (pc' := 50) rfl rfl dX7_turn_49 ?_
        refine j_iadd (pc' := 51) rfl dX7_turn_50 ?_
        obtain ⟨g7, hk⟩ := of_ite hk
        refine j_si (pc' := 52) (fun _ _ _ => rfl) (inR_in g7) rfl dX7_turn_51 ?_
        refine j_aload_n (pc' := 53) rfl rfl dX7_turn_52 ?_
        refine j_aload (pc' := 55) rfl rfl dX7_turn_53 ?_
        refine j_getf (pc' := 58) fg_RX7_54 (hp_e rfl) rfl rfl dX7_turn_55 ?_
        refine j_iconst (pc' := 59) (v := 0) rfl rfl dX7_turn_58 ?_
        obtain ⟨⟨r8, σ9⟩, hx, hk⟩ := of_bind hk
        refine j_cv1 (pc' := 62) (LV_isFree hx) cv_RX7_57 ⟨le_b rfl, le_b rfl⟩ (hp_e rfl) rfl rfl (le_b rfl) ⟨rfl, rfl⟩ ⟨le_b rfl, le_b rfl⟩ rfl rfl dX7_turn_59 ?_
        refine j_if_eq (pc' := 65) (tg := 75) rfl rfl dX7_turn_62 (fun c10 => ?_) (fun c10 => ?_)
        · have hk := (if_pos c10).symm.trans hk
          obtain rfl := Option.some.inj hk
          exact j_ret rfl ⟨rfl, rfl⟩ dX7_turn_75 hP
        · have hk := (if_neg c10).symm.trans hk
          refine j_aload_n (pc' := 66) rfl rfl dX7_turn_65 ?_
          refine j_dup (pc' := 67) rfl rfl dX7_turn_66 ?_
          refine j_getf (pc' := 70) fg_RX7_31 (hp_e rfl) rfl rfl dX7_turn_67 ?_
          refine j_iload_n (pc' := 71) rfl rfl dX7_turn_70 ?_
          refine j_iadd (pc' := 72) rfl dX7_turn_71 ?_
          refine j_pi (pc' := 75) (ty := .int) fg_RX7_31 ttX7 rfl rfl ⟨rfl, rfl⟩ rfl (lt_b rfl) rfl rfl dX7_turn_72 ?_
          obtain rfl := Option.some.inj hk
          exact j_ret rfl ⟨rfl, rfl⟩ dX7_turn_75 hP
      · have hk := (if_neg c11).symm.trans hk
        obtain rfl := Option.some.inj hk
        exact j_ret rfl ⟨rfl, rfl⟩ dX7_turn_25 hP
theorem LV_turn {σ σ' : Mem} {x1 : Int32} {x2 : Int32} {x3 : Int32} {r : Unit} (hk : kV_turn σ x1 x2 x3 = some (r, σ')) : M l D dA H0 yX7_turn YV_turn [vR (some (7, 0)), vI x1, vI x2, vI x3] (hp σ) (fun x h' => x = none ∧ h' = hp σ') :=
  m_of (j := 1) (by decide) rfl (fun hh => by cases hh) ⟨fun _ _ => trivial, rfl⟩ (le_b rfl) (qV_turn hk ⟨rfl, rfl⟩)
theorem qV_take_j72 {σ : Mem} {x2 : Int32} {x3 : Int32} {x4 : Int32} {x5 : Int32} {o1 : Option AV} {res : Int32 × Mem} (hk : kV_take_j72 σ x2 x3 x4 x5 = some res) (hP : Po (some (vI res.1)) (hp res.2)) : J l D dA H0 YV_take h0 Po 0 0 (hp σ) 72 [some (vR (some (7, 0))), o1, some (vI x2), some (vI x3), some (vI x4), some (vI x5)] [] := by
  unfold kV_take_j72 at hk
  refine j_aload_n (pc' := 73) rfl rfl dX7_take_72 ?_
  obtain ⟨⟨r13, σ14⟩, hx, hk⟩ := of_bind hk
  refine j_cv1 (pc' := 76) (LV_fits hx) cv_RX7_94 ⟨le_b rfl, le_b rfl⟩ (hp_e rfl) rfl rfl (le_b rfl) ⟨rfl, rfl⟩ ⟨le_b rfl, le_b rfl⟩ rfl rfl dX7_take_73 ?_
  refine j_if_eq (pc' := 79) (tg := 81) rfl rfl dX7_take_76 (fun c22 => ?_) (fun c22 => ?_)
  · have hk := (if_pos c22).symm.trans hk
    refine j_aload_n (pc' := 82) rfl rfl dX7_take_81 ?_
    refine j_iload_n (pc' := 83) rfl rfl dX7_take_82 ?_
    obtain ⟨⟨_, σ16⟩, hx, hk⟩ := of_bind hk
    refine j_cv0 (pc' := 86) (LV_addNeed hx) cv_RX7_98 ⟨le_b rfl, le_b rfl⟩ (hp_e rfl) rfl rfl (le_b rfl) ⟨rfl, rfl⟩ ⟨le_b rfl, le_b rfl⟩ rfl rfl dX7_take_83 ?_
    refine j_aload_n (pc' := 87) rfl rfl dX7_take_86 ?_
    refine j_iload_n (pc' := 88) rfl rfl dX7_take_87 ?_
    refine j_iload (pc' := 90) rfl rfl dX7_take_88 ?_
    refine j_iconst (pc' := 91) (v := 1) rfl rfl dX7_take_90 ?_
    obtain ⟨⟨_, σ18⟩, hx, hk⟩ := of_bind hk
    refine j_cv0 (pc' := 94) (LV_turn hx) cv_RX7_90 ⟨le_b rfl, le_b rfl⟩ (hp_e rfl) rfl rfl (le_b rfl) ⟨rfl, rfl⟩ ⟨le_b rfl, le_b rfl⟩ rfl rfl dX7_take_91 ?_
    refine j_iload (pc' := 96) rfl rfl dX7_take_94 ?_
    refine j_if_eq (pc' := 99) (tg := 108) rfl rfl dX7_take_96 (fun c21 => ?_) (fun c21 => ?_)
    · have hk := (if_pos c21).symm.trans hk
      refine j_iconst (pc' := 109) (v := 0) rfl rfl dX7_take_108 ?_
      obtain rfl := Option.some.inj hk
      exact j_zret rfl rfl ⟨rfl, rfl⟩ dX7_take_109 hP
    · have hk := (if_neg c21).symm.trans hk
      refine j_aload_n (pc' := 100) rfl rfl dX7_take_99 ?_
      refine j_iload_n (pc' := 101) rfl rfl dX7_take_100 ?_
      refine j_iconst (pc' := 102) (v := 1) rfl rfl dX7_take_101 ?_
      refine j_iadd (pc' := 103) rfl dX7_take_102 ?_
      refine j_iconst (pc' := 104) (v := 0) rfl rfl dX7_take_103 ?_
      refine j_iconst (pc' := 105) (v := 1) rfl rfl dX7_take_104 ?_
      obtain ⟨⟨_, σ20⟩, hx, hk⟩ := of_bind hk
      refine j_cv0 (pc' := 108) (LV_turn hx) cv_RX7_90 ⟨le_b rfl, le_b rfl⟩ (hp_e rfl) rfl rfl (le_b rfl) ⟨rfl, rfl⟩ ⟨le_b rfl, le_b rfl⟩ rfl rfl dX7_take_105 ?_
      refine j_iconst (pc' := 109) (v := 0) rfl rfl dX7_take_108 ?_
      obtain rfl := Option.some.inj hk
      exact j_zret rfl rfl ⟨rfl, rfl⟩ dX7_take_109 hP
  · have hk := (if_neg c22).symm.trans hk
    refine j_iconst (pc' := 80) (v := 1) rfl rfl dX7_take_79 ?_
    obtain rfl := Option.some.inj hk
    exact j_zret rfl rfl ⟨rfl, rfl⟩ dX7_take_80 hP
theorem qV_take_j45 {σ : Mem} {x2 : Int32} {x3 : Int32} {x4 : Int32} {x5 : Int32} {o1 : Option AV} {res : Int32 × Mem} (hk : kV_take_j45 σ x2 x3 x4 x5 = some res) (hP : Po (some (vI res.1)) (hp res.2)) : J l D dA H0 YV_take h0 Po 0 0 (hp σ) 45 [some (vR (some (7, 0))), o1, some (vI x2), some (vI x3), some (vI x4), some (vI x5)] [] := by
  unfold kV_take_j45 at hk
  refine j_aload_n (pc' := 46) rfl rfl dX7_take_45 ?_
  refine j_iload_n (pc' := 47) rfl rfl dX7_take_46 ?_
  obtain ⟨⟨_, σ10⟩, hx, hk⟩ := of_bind hk
  refine j_cv0 (pc' := 50) (LV_dropNeed hx) cv_RX7_86 ⟨le_b rfl, le_b rfl⟩ (hp_e rfl) rfl rfl (le_b rfl) ⟨rfl, rfl⟩ ⟨le_b rfl, le_b rfl⟩ rfl rfl dX7_take_47 ?_
  refine j_aload_n (pc' := 51) rfl rfl dX7_take_50 ?_
  refine j_iload_n (pc' := 52) rfl rfl dX7_take_51 ?_
  refine j_iload (pc' := 54) rfl rfl dX7_take_52 ?_
  refine j_iconst (pc' := 55) (v := (-1)) rfl rfl dX7_take_54 ?_
  obtain ⟨⟨_, σ12⟩, hx, hk⟩ := of_bind hk
  refine j_cv0 (pc' := 58) (LV_turn hx) cv_RX7_90 ⟨le_b rfl, le_b rfl⟩ (hp_e rfl) rfl rfl (le_b rfl) ⟨rfl, rfl⟩ ⟨le_b rfl, le_b rfl⟩ rfl rfl dX7_take_55 ?_
  refine j_iload (pc' := 60) rfl rfl dX7_take_58 ?_
  refine j_if_eq (pc' := 63) (tg := 72) rfl rfl dX7_take_60 (fun c25 => ?_) (fun c25 => ?_)
  · have hk := (if_pos c25).symm.trans hk
    exact qV_take_j72 hk hP
  · have hk := (if_neg c25).symm.trans hk
    refine j_aload_n (pc' := 64) rfl rfl dX7_take_63 ?_
    refine j_iload_n (pc' := 65) rfl rfl dX7_take_64 ?_
    refine j_iconst (pc' := 66) (v := 1) rfl rfl dX7_take_65 ?_
    refine j_iadd (pc' := 67) rfl dX7_take_66 ?_
    refine j_iconst (pc' := 68) (v := 0) rfl rfl dX7_take_67 ?_
    refine j_iconst (pc' := 69) (v := (-1)) rfl rfl dX7_take_68 ?_
    obtain ⟨⟨_, σ24⟩, hx, hk⟩ := of_bind hk
    refine j_cv0 (pc' := 72) (LV_turn hx) cv_RX7_90 ⟨le_b rfl, le_b rfl⟩ (hp_e rfl) rfl rfl (le_b rfl) ⟨rfl, rfl⟩ ⟨le_b rfl, le_b rfl⟩ rfl rfl dX7_take_69 ?_
    exact qV_take_j72 hk hP
theorem qV_take {σ : Mem} {x1 : Int32} {x2 : Int32} {o3 : Option AV} {o4 : Option AV} {o5 : Option AV} {res : Int32 × Mem} (hk : kV_take σ x1 x2 = some res) (hP : Po (some (vI res.1)) (hp res.2)) : J l D dA H0 YV_take h0 Po 0 0 (hp σ) 0 [some (vR (some (7, 0))), some (vI x1), some (vI x2), o3, o4, o5] [] := by
  unfold kV_take at hk
  refine j_iload_n (pc' := 1) rfl rfl dX7_take_0 ?_
  obtain ⟨⟨r1, σ2⟩, hx, hk⟩ := of_bind hk
  refine j_cs1 (pc' := 4) (LG_placeOf hx) cs_RX7_77 ⟨le_b rfl, le_b rfl⟩ rfl (le_b rfl) ⟨rfl, rfl⟩ ⟨le_b rfl, le_b rfl⟩ rfl rfl dX7_take_1 ?_
  refine j_istore_n (pc' := 5) (lt_b rfl) rfl rfl dX7_take_4 ?_
  refine j_iload_n (pc' := 6) rfl rfl dX7_take_5 ?_
  obtain ⟨⟨r3, σ4⟩, hx, hk⟩ := of_bind hk
  refine j_cs1 (pc' := 9) (LG_bedOf hx) cs_RX7_80 ⟨le_b rfl, le_b rfl⟩ rfl (le_b rfl) ⟨rfl, rfl⟩ ⟨le_b rfl, le_b rfl⟩ rfl rfl dX7_take_6 ?_
  refine j_istore (pc' := 11) (lt_b rfl) rfl rfl dX7_take_9 ?_
  refine j_iload_n (pc' := 12) rfl rfl dX7_take_11 ?_
  obtain ⟨⟨r5, σ6⟩, hx, hk⟩ := of_bind hk
  refine j_cs1 (pc' := 15) (LG_isSuite hx) cs_RX7_83 ⟨le_b rfl, le_b rfl⟩ rfl (le_b rfl) ⟨rfl, rfl⟩ ⟨le_b rfl, le_b rfl⟩ rfl rfl dX7_take_12 ?_
  refine j_istore (pc' := 17) (lt_b rfl) rfl rfl dX7_take_15 ?_
  refine j_aload_n (pc' := 18) rfl rfl dX7_take_17 ?_
  refine j_iload_n (pc' := 19) rfl rfl dX7_take_18 ?_
  refine j_iload (pc' := 21) rfl rfl dX7_take_19 ?_
  obtain ⟨⟨r7, σ8⟩, hx, hk⟩ := of_bind hk
  refine j_cv1 (pc' := 24) (LV_isFree hx) cv_RX7_57 ⟨le_b rfl, le_b rfl⟩ (hp_e rfl) rfl rfl (le_b rfl) ⟨rfl, rfl⟩ ⟨le_b rfl, le_b rfl⟩ rfl rfl dX7_take_21 ?_
  refine j_if_eq (pc' := 27) (tg := 43) rfl rfl dX7_take_24 (fun c30 => ?_) (fun c30 => ?_)
  · have hk := (if_pos c30).symm.trans hk
    refine j_iconst (pc' := 44) (v := 0) rfl rfl dX7_take_43 ?_
    obtain rfl := Option.some.inj hk
    exact j_zret rfl rfl ⟨rfl, rfl⟩ dX7_take_44 hP
  · have hk := (if_neg c30).symm.trans hk
    refine j_iload (pc' := 29) rfl rfl dX7_take_27 ?_
    refine j_if_eq (pc' := 32) (tg := 45) rfl rfl dX7_take_29 (fun c29 => ?_) (fun c29 => ?_)
    · have hk := (if_pos c29).symm.trans hk
      exact qV_take_j45 hk hP
    · have hk := (if_neg c29).symm.trans hk
      refine j_aload_n (pc' := 33) rfl rfl dX7_take_32 ?_
      refine j_iload_n (pc' := 34) rfl rfl dX7_take_33 ?_
      refine j_iconst (pc' := 35) (v := 1) rfl rfl dX7_take_34 ?_
      refine j_iadd (pc' := 36) rfl dX7_take_35 ?_
      refine j_iconst (pc' := 37) (v := 0) rfl rfl dX7_take_36 ?_
      obtain ⟨⟨r26, σ27⟩, hx, hk⟩ := of_bind hk
      refine j_cv1 (pc' := 40) (LV_isFree hx) cv_RX7_57 ⟨le_b rfl, le_b rfl⟩ (hp_e rfl) rfl rfl (le_b rfl) ⟨rfl, rfl⟩ ⟨le_b rfl, le_b rfl⟩ rfl rfl dX7_take_37 ?_
      refine j_if_ne (pc' := 43) (tg := 45) rfl rfl dX7_take_40 (fun c28 => ?_) (fun c28 => ?_)
      · have hk := (if_neg c28).symm.trans hk
        exact qV_take_j45 hk hP
      · have hk := (if_pos c28).symm.trans hk
        refine j_iconst (pc' := 44) (v := 0) rfl rfl dX7_take_43 ?_
        obtain rfl := Option.some.inj hk
        exact j_zret rfl rfl ⟨rfl, rfl⟩ dX7_take_44 hP
theorem LV_take {σ σ' : Mem} {x1 : Int32} {x2 : Int32} {r : Int32} (hk : kV_take σ x1 x2 = some (r, σ')) : M l D dA H0 yX7_take YV_take [vR (some (7, 0)), vI x1, vI x2] (hp σ) (fun x h' => x = some (vI r) ∧ h' = hp σ') :=
  m_of (j := 3) (by decide) rfl (fun hh => by cases hh) ⟨fun _ _ => trivial, rfl⟩ (le_b rfl) (qV_take hk ⟨rfl, rfl⟩)
theorem qP_spotAgain {σ : Mem} {x1 : Nat} {x2 : Int32} {o3 : Option AV} {res : Int32 × Mem} (hk : kP_spotAgain σ x1 x2 = some res) (hP : Po (some (vI res.1)) (hp res.2)) : J l D dA H0 YP_spotAgain h0 Po 0 0 (hp σ) 0 [some (vR (some (11, 0))), some (vR (some (21, x1))), some (vI x2), o3] [] := by
  unfold kP_spotAgain at hk
  refine j_aload_n (pc' := 1) rfl rfl dX2_spotAgain_0 ?_
  refine j_iload_n (pc' := 2) rfl rfl dX2_spotAgain_1 ?_
  refine j_iconst (pc' := 3) (v := 1) rfl rfl dX2_spotAgain_2 ?_
  refine j_isub (pc' := 4) rfl dX2_spotAgain_3 ?_
  obtain ⟨⟨r1, σ2⟩, hx, hk⟩ := of_bind hk
  refine j_cv1 (pc' := 7) (LQ_spotIn hx) cv_RX2_57 ⟨le_b rfl, le_b rfl⟩ (hp_e rfl) rfl rfl (le_b rfl) ⟨rfl, rfl⟩ ⟨le_b rfl, le_b rfl⟩ rfl rfl dX2_spotAgain_4 ?_
  refine j_istore_n (pc' := 8) (lt_b rfl) rfl rfl dX2_spotAgain_7 ?_
  refine j_aload_n (pc' := 9) rfl rfl dX2_spotAgain_8 ?_
  refine j_getf (pc' := 12) fg_RX2_29 (hp_e rfl) rfl rfl dX2_spotAgain_9 ?_
  refine j_iload_n (pc' := 13) rfl rfl dX2_spotAgain_12 ?_
  refine j_aload_n (pc' := 14) rfl rfl dX2_spotAgain_13 ?_
  refine j_getf (pc' := 17) fg_RX2_61 (hp_e rfl) rfl rfl dX2_spotAgain_14 ?_
  obtain ⟨⟨r3, σ4⟩, hx, hk⟩ := of_bind hk
  refine j_cv1 (pc' := 20) (LV_take hx) cv_RX2_100 ⟨le_b rfl, le_b rfl⟩ (hp_e rfl) rfl rfl (le_b rfl) ⟨rfl, rfl⟩ ⟨le_b rfl, le_b rfl⟩ rfl rfl dX2_spotAgain_17 ?_
  refine j_if_eq (pc' := 23) (tg := 27) rfl rfl dX2_spotAgain_20 (fun c5 => ?_) (fun c5 => ?_)
  · have hk := (if_pos c5).symm.trans hk
    refine j_iconst (pc' := 28) (v := (-1)) rfl rfl dX2_spotAgain_27 ?_
    obtain rfl := Option.some.inj hk
    exact j_iret rfl ⟨rfl, rfl⟩ dX2_spotAgain_28 hP
  · have hk := (if_neg c5).symm.trans hk
    refine j_iload_n (pc' := 24) rfl rfl dX2_spotAgain_23 ?_
    refine j_goto (tg := 28) rfl dX2_spotAgain_24 ?_
    obtain rfl := Option.some.inj hk
    exact j_iret rfl ⟨rfl, rfl⟩ dX2_spotAgain_28 hP
theorem LP_spotAgain {σ σ' : Mem} {x1 : Nat} {x2 : Int32} {r : Int32} (hk : kP_spotAgain σ x1 x2 = some (r, σ')) : M l D dA H0 yX2_spotAgain YP_spotAgain [vR (some (11, 0)), vR (some (21, x1)), vI x2] (hp σ) (fun x h' => x = some (vI r) ∧ h' = hp σ') :=
  m_of (j := 1) (by decide) rfl (fun hh => by cases hh) ⟨fun _ _ => trivial, rfl⟩ (le_b rfl) (qP_spotAgain hk ⟨rfl, rfl⟩)
theorem qG_spotCode {σ : Mem} {x0 : Int32} {x1 : Int32} {x2 : Int32} {res : Int32 × Mem} (hk : kG_spotCode σ x0 x1 x2 = some res) (hP : Po (some (vI res.1)) (hp res.2)) : J l D dA H0 YG_spotCode h0 Po 0 0 (hp σ) 0 [some (vI x0), some (vI x1), some (vI x2)] [] := by
  unfold kG_spotCode at hk
  refine j_bipush (pc' := 2) (v := 32) rfl rfl dX8_spotCode_0 ?_
  refine j_iload_n (pc' := 3) rfl rfl dX8_spotCode_2 ?_
  refine j_imul (pc' := 4) rfl dX8_spotCode_3 ?_
  refine j_iconst (pc' := 5) (v := 4) rfl rfl dX8_spotCode_4 ?_
  refine j_iload_n (pc' := 6) rfl rfl dX8_spotCode_5 ?_
  refine j_imul (pc' := 7) rfl dX8_spotCode_6 ?_
  refine j_iadd (pc' := 8) rfl dX8_spotCode_7 ?_
  refine j_iload_n (pc' := 9) rfl rfl dX8_spotCode_8 ?_
  refine j_if_eq (pc' := 12) (tg := 16) rfl rfl dX8_spotCode_9 (fun c1 => ?_) (fun c1 => ?_)
  · have hk := (if_pos c1).symm.trans hk
    refine j_iconst (pc' := 17) (v := 0) rfl rfl dX8_spotCode_16 ?_
    refine j_iadd (pc' := 18) rfl dX8_spotCode_17 ?_
    obtain rfl := Option.some.inj hk
    exact j_iret rfl ⟨rfl, rfl⟩ dX8_spotCode_18 hP
  · have hk := (if_neg c1).symm.trans hk
    refine j_iconst (pc' := 13) (v := 1) rfl rfl dX8_spotCode_12 ?_
    refine j_goto (tg := 17) rfl dX8_spotCode_13 ?_
    refine j_iadd (pc' := 18) rfl dX8_spotCode_17 ?_
    obtain rfl := Option.some.inj hk
    exact j_iret rfl ⟨rfl, rfl⟩ dX8_spotCode_18 hP
theorem LG_spotCode {σ σ' : Mem} {x0 : Int32} {x1 : Int32} {x2 : Int32} {r : Int32} (hk : kG_spotCode σ x0 x1 x2 = some (r, σ')) : M l D dA H0 yX8_spotCode YG_spotCode [vI x0, vI x1, vI x2] (hp σ) (fun x h' => x = some (vI r) ∧ h' = hp σ') :=
  m_of (j := 0) (by decide) rfl (fun hh => by cases hh) ⟨fun _ _ => trivial, rfl⟩ (le_b rfl) (qG_spotCode hk ⟨rfl, rfl⟩)
theorem qP_firstSuite_s2 {σ : Mem} {x1 : Int32} {o2 : Option AV} {o3 : Option AV} {out : (Int32 × Mem) ⊕ ((Int32 × Mem) ⊕ (Mem))} (hk : kP_firstSuite_s2 (x1, σ) = some out) (hc : ∀ (z1 : Int32) (ς : Mem), out = .inl (z1, ς) → ∀ (o2 o3 : Option AV), J l D dA H0 YP_firstSuite h0 Po 0 0 (hp ς) 2 [some (vR (some (11, 0))), some (vI z1), o2, o3] []) (hx0 : ∀ (z3 : Int32) (ς : Mem), out = .inr (.inl (z3, ς)) → ∀ (o0 o1 o2 : Option AV), J l D dA H0 YP_firstSuite h0 Po 0 0 (hp ς) 48 [o0, o1, o2, some (vI z3)] []) (hx1 : ∀ (ς : Mem), out = .inr (.inr ς) → ∀ (o0 o1 o2 o3 : Option AV), J l D dA H0 YP_firstSuite h0 Po 0 0 (hp ς) 56 [o0, o1, o2, o3] []) : J l D dA H0 YP_firstSuite h0 Po 0 0 (hp σ) 2 [some (vR (some (11, 0))), some (vI x1), o2, o3] [] := by
  unfold kP_firstSuite_s2 at hk
  refine j_iload_n (pc' := 3) rfl rfl dX2_firstSuite_2 ?_
  refine j_bipush (pc' := 5) (v := 16) rfl rfl dX2_firstSuite_3 ?_
  refine j_ic_ge (pc' := 8) (tg := 56) rfl rfl dX2_firstSuite_5 (fun c10 => ?_) (fun c10 => ?_)
  · have hk := (if_pos c10).symm.trans hk
    obtain rfl := Option.some.inj hk
    exact hx1 _ rfl _ _ _ _
  · have hk := (if_neg c10).symm.trans hk
    refine j_aload_n (pc' := 9) rfl rfl dX2_firstSuite_8 ?_
    refine j_getf (pc' := 12) fg_RX2_21 (hp_e rfl) rfl rfl dX2_firstSuite_9 ?_
    refine j_iload_n (pc' := 13) rfl rfl dX2_firstSuite_12 ?_
    obtain ⟨⟨r1, σ2⟩, hx, hk⟩ := of_bind hk
    refine j_cv1 (pc' := 16) (LH_roomAt hx) cv_RX2_104 ⟨le_b rfl, le_b rfl⟩ (hp_e rfl) rfl rfl (le_b rfl) ⟨rfl, rfl⟩ ⟨le_b rfl, le_b rfl⟩ rfl rfl dX2_firstSuite_13 ?_
    refine j_astore_n (pc' := 17) (lt_b rfl) rfl rfl dX2_firstSuite_16 ?_
    refine j_iload_n (pc' := 18) rfl rfl dX2_firstSuite_17 ?_
    refine j_iconst (pc' := 19) (v := 0) rfl rfl dX2_firstSuite_18 ?_
    refine j_iconst (pc' := 20) (v := 1) rfl rfl dX2_firstSuite_19 ?_
    obtain ⟨⟨r3, σ4⟩, hx, hk⟩ := of_bind hk
    refine j_cs1 (pc' := 23) (LG_spotCode hx) cs_RX2_110 ⟨le_b rfl, le_b rfl⟩ rfl (le_b rfl) ⟨rfl, rfl⟩ ⟨le_b rfl, le_b rfl⟩ rfl rfl dX2_firstSuite_20 ?_
    refine j_istore_n (pc' := 24) (lt_b rfl) rfl rfl dX2_firstSuite_23 ?_
    refine j_aload_n (pc' := 25) rfl rfl dX2_firstSuite_24 ?_
    rcases of_elim hk with ⟨hr, hk⟩ | ⟨j5, hr, hk⟩
    · subst hr
      refine j_ifnull (pc' := 28) (tg := 50) rfl rfl dX2_firstSuite_25 (fun _ => ?_) (fun _ hh => by cases hh)
      refine j_iinc (pc' := 53) (v := x1 + 1) rfl rfl (lt_b rfl) rfl rfl dX2_firstSuite_50 ?_
      refine j_goto (tg := 2) rfl dX2_firstSuite_53 ?_
      obtain rfl := Option.some.inj hk
      exact hc _ _ rfl _ _
    · subst hr
      refine j_ifnull (pc' := 28) (tg := 50) rfl rfl dX2_firstSuite_25 (fun hh => by cases hh) (fun _ _ => ?_)
      refine j_aload_n (pc' := 29) rfl rfl dX2_firstSuite_28 ?_
      refine j_getf (pc' := 32) fg_RX2_114 (hp_e rfl) rfl rfl dX2_firstSuite_29 ?_
      refine j_iload_n (pc' := 33) rfl rfl dX2_firstSuite_32 ?_
      refine j_ic_le (pc' := 36) (tg := 50) rfl rfl dX2_firstSuite_33 (fun c9 => ?_) (fun c9 => ?_)
      · have hk := (if_pos c9).symm.trans hk
        refine j_iinc (pc' := 53) (v := x1 + 1) rfl rfl (lt_b rfl) rfl rfl dX2_firstSuite_50 ?_
        refine j_goto (tg := 2) rfl dX2_firstSuite_53 ?_
        obtain rfl := Option.some.inj hk
        exact hc _ _ rfl _ _
      · have hk := (if_neg c9).symm.trans hk
        refine j_aload_n (pc' := 37) rfl rfl dX2_firstSuite_36 ?_
        refine j_getf (pc' := 40) fg_RX2_29 (hp_e rfl) rfl rfl dX2_firstSuite_37 ?_
        refine j_iload_n (pc' := 41) rfl rfl dX2_firstSuite_40 ?_
        refine j_iconst (pc' := 42) (v := 4) rfl rfl dX2_firstSuite_41 ?_
        obtain ⟨⟨r6, σ7⟩, hx, hk⟩ := of_bind hk
        refine j_cv1 (pc' := 45) (LV_take hx) cv_RX2_100 ⟨le_b rfl, le_b rfl⟩ (hp_e rfl) rfl rfl (le_b rfl) ⟨rfl, rfl⟩ ⟨le_b rfl, le_b rfl⟩ rfl rfl dX2_firstSuite_42 ?_
        refine j_if_eq (pc' := 48) (tg := 50) rfl rfl dX2_firstSuite_45 (fun c8 => ?_) (fun c8 => ?_)
        · have hk := (if_pos c8).symm.trans hk
          refine j_iinc (pc' := 53) (v := x1 + 1) rfl rfl (lt_b rfl) rfl rfl dX2_firstSuite_50 ?_
          refine j_goto (tg := 2) rfl dX2_firstSuite_53 ?_
          obtain rfl := Option.some.inj hk
          exact hc _ _ rfl _ _
        · have hk := (if_neg c8).symm.trans hk
          obtain rfl := Option.some.inj hk
          exact hx0 _ _ rfl _ _ _
theorem lP_firstSuite_s2 : ∀ (n : Nat) (x1 : Int32) (σ : Mem) (e : ((Int32 × Mem) ⊕ (Mem))), loopF n (kP_firstSuite_s2) (x1, σ) = some e → (∀ (z3 : Int32) (ς : Mem), e = (.inl (z3, ς)) → ∀ (o0 o1 o2 : Option AV), J l D dA H0 YP_firstSuite h0 Po 0 0 (hp ς) 48 [o0, o1, o2, some (vI z3)] []) → (∀ (ς : Mem), e = (.inr ς) → ∀ (o0 o1 o2 o3 : Option AV), J l D dA H0 YP_firstSuite h0 Po 0 0 (hp ς) 56 [o0, o1, o2, o3] []) → ∀ (o2 o3 : Option AV), J l D dA H0 YP_firstSuite h0 Po 0 0 (hp σ) 2 [some (vR (some (11, 0))), some (vI x1), o2, o3] []
  | 0, x1, σ, e, he => by cases he
  | n + 1, x1, σ, e, he => by
    intro hx0 hx1 o2 o3
    rcases loopF_succ he with ⟨s', h1, h2⟩ | h1
    · refine qP_firstSuite_s2 h1 ?_ ?_ ?_
      · intro z1 ς ee
        cases ee
        exact lP_firstSuite_s2 n z1 ς e h2 hx0 hx1
      · intro z3 ς ee
        cases ee
      · intro ς ee
        cases ee
    · refine qP_firstSuite_s2 h1 ?_ ?_ ?_
      · intro z1 ς ee
        cases ee
      · intro z3 ς ee
        exact hx0 z3 ς (Sum.inr.inj ee)
      · intro ς ee
        exact hx1 ς (Sum.inr.inj ee)
theorem qP_firstSuite_x48 {σ : Mem} {x3 : Int32} {o0 : Option AV} {o1 : Option AV} {o2 : Option AV} {res : Int32 × Mem} (hk : kP_firstSuite_x48 σ x3 = some res) (hP : Po (some (vI res.1)) (hp res.2)) : J l D dA H0 YP_firstSuite h0 Po 0 0 (hp σ) 48 [o0, o1, o2, some (vI x3)] [] := by
  unfold kP_firstSuite_x48 at hk
  refine j_iload_n (pc' := 49) rfl rfl dX2_firstSuite_48 ?_
  obtain rfl := Option.some.inj hk
  exact j_iret rfl ⟨rfl, rfl⟩ dX2_firstSuite_49 hP
theorem qP_firstSuite_x56 {σ : Mem} {o0 : Option AV} {o1 : Option AV} {o2 : Option AV} {o3 : Option AV} {res : Int32 × Mem} (hk : kP_firstSuite_x56 σ = some res) (hP : Po (some (vI res.1)) (hp res.2)) : J l D dA H0 YP_firstSuite h0 Po 0 0 (hp σ) 56 [o0, o1, o2, o3] [] := by
  unfold kP_firstSuite_x56 at hk
  refine j_iconst (pc' := 57) (v := (-1)) rfl rfl dX2_firstSuite_56 ?_
  obtain rfl := Option.some.inj hk
  exact j_iret rfl ⟨rfl, rfl⟩ dX2_firstSuite_57 hP
theorem qP_firstSuite {σ : Mem} {o1 : Option AV} {o2 : Option AV} {o3 : Option AV} {res : Int32 × Mem} (hk : kP_firstSuite σ = some res) (hP : Po (some (vI res.1)) (hp res.2)) : J l D dA H0 YP_firstSuite h0 Po 0 0 (hp σ) 0 [some (vR (some (11, 0))), o1, o2, o3] [] := by
  unfold kP_firstSuite at hk
  refine j_iconst (pc' := 1) (v := 0) rfl rfl dX2_firstSuite_0 ?_
  refine j_istore_n (pc' := 2) (lt_b rfl) rfl rfl dX2_firstSuite_1 ?_
  obtain ⟨e, he, hk⟩ := of_bind hk
  refine lP_firstSuite_s2 FU _ _ e he ?_ ?_ _ _
  · intro z3 ς ee _ _ _
    subst ee
    exact qP_firstSuite_x48 hk hP
  · intro ς ee _ _ _ _
    subst ee
    exact qP_firstSuite_x56 hk hP
theorem LP_firstSuite {σ σ' : Mem} {r : Int32} (hk : kP_firstSuite σ = some (r, σ')) : M l D dA H0 yX2_firstSuite YP_firstSuite [vR (some (11, 0))] (hp σ) (fun x h' => x = some (vI r) ∧ h' = hp σ') :=
  m_of (j := 3) (by decide) rfl (fun hh => by cases hh) ⟨fun _ _ => trivial, rfl⟩ (le_b rfl) (qP_firstSuite hk ⟨rfl, rfl⟩)
theorem qR_suits {σ : Mem} {x0 : Nat} {x1 : Int32} {res : Int32 × Mem} (hk : kR_suits σ x0 x1 = some res) (hP : Po (some (vI res.1)) (hp res.2)) : J l D dA H0 YR_suits h0 Po 0 0 (hp σ) 0 [some (vR (some (20, x0))), some (vI x1)] [] := by
  unfold kR_suits at hk
  refine j_iload_n (pc' := 1) rfl rfl dX4_suits_0 ?_
  by_cases cw0 : x1 = 0
  · have hk := (if_pos cw0).symm.trans hk
    refine j_tin (off := 31) (tg := 32) cw0 (by decide) dX4_suits_1 ?_
    refine j_aload_n (pc' := 33) rfl rfl dX4_suits_32 ?_
    refine j_getf (pc' := 36) fg_RX4_15 (hp_e rfl) rfl rfl dX4_suits_33 ?_
    refine j_iconst (pc' := 37) (v := 3) rfl rfl dX4_suits_36 ?_
    refine j_ic_ne (pc' := 40) (tg := 44) rfl rfl dX4_suits_37 (fun c1 => ?_) (fun c1 => ?_)
    · have hk := (if_neg c1).symm.trans hk
      refine j_iconst (pc' := 45) (v := 0) rfl rfl dX4_suits_44 ?_
      obtain rfl := Option.some.inj hk
      exact j_zret rfl rfl ⟨rfl, rfl⟩ dX4_suits_45 hP
    · have hk := (if_pos c1).symm.trans hk
      refine j_iconst (pc' := 41) (v := 1) rfl rfl dX4_suits_40 ?_
      refine j_goto (tg := 45) rfl dX4_suits_41 ?_
      obtain rfl := Option.some.inj hk
      exact j_zret rfl rfl ⟨rfl, rfl⟩ dX4_suits_45 hP
  have hk := (if_neg cw0).symm.trans hk
  by_cases cw1 : x1 = 1
  · have hk := (if_pos cw1).symm.trans hk
    refine j_tin (off := 45) (tg := 46) cw1 (by decide) dX4_suits_1 ?_
    refine j_aload_n (pc' := 47) rfl rfl dX4_suits_46 ?_
    refine j_getf (pc' := 50) fg_RX4_15 (hp_e rfl) rfl rfl dX4_suits_47 ?_
    refine j_iconst (pc' := 51) (v := 3) rfl rfl dX4_suits_50 ?_
    refine j_ic_eq (pc' := 54) (tg := 58) rfl rfl dX4_suits_51 (fun c2 => ?_) (fun c2 => ?_)
    · have hk := (if_pos c2).symm.trans hk
      refine j_iconst (pc' := 59) (v := 0) rfl rfl dX4_suits_58 ?_
      obtain rfl := Option.some.inj hk
      exact j_zret rfl rfl ⟨rfl, rfl⟩ dX4_suits_59 hP
    · have hk := (if_neg c2).symm.trans hk
      refine j_iconst (pc' := 55) (v := 1) rfl rfl dX4_suits_54 ?_
      refine j_goto (tg := 59) rfl dX4_suits_55 ?_
      obtain rfl := Option.some.inj hk
      exact j_zret rfl rfl ⟨rfl, rfl⟩ dX4_suits_59 hP
  have hk := (if_neg cw1).symm.trans hk
  by_cases cw2 : x1 = 2
  · have hk := (if_pos cw2).symm.trans hk
    refine j_tin (off := 59) (tg := 60) cw2 (by decide) dX4_suits_1 ?_
    refine j_aload_n (pc' := 61) rfl rfl dX4_suits_60 ?_
    refine j_getf (pc' := 64) fg_RX4_15 (hp_e rfl) rfl rfl dX4_suits_61 ?_
    refine j_iconst (pc' := 65) (v := 1) rfl rfl dX4_suits_64 ?_
    refine j_ic_eq (pc' := 68) (tg := 76) rfl rfl dX4_suits_65 (fun c4 => ?_) (fun c4 => ?_)
    · have hk := (if_pos c4).symm.trans hk
      refine j_iconst (pc' := 77) (v := 1) rfl rfl dX4_suits_76 ?_
      refine j_goto (tg := 81) rfl dX4_suits_77 ?_
      obtain rfl := Option.some.inj hk
      exact j_zret rfl rfl ⟨rfl, rfl⟩ dX4_suits_81 hP
    · have hk := (if_neg c4).symm.trans hk
      refine j_aload_n (pc' := 69) rfl rfl dX4_suits_68 ?_
      refine j_getf (pc' := 72) fg_RX4_15 (hp_e rfl) rfl rfl dX4_suits_69 ?_
      refine j_iconst (pc' := 73) (v := 2) rfl rfl dX4_suits_72 ?_
      refine j_ic_ne (pc' := 76) (tg := 80) rfl rfl dX4_suits_73 (fun c3 => ?_) (fun c3 => ?_)
      · have hk := (if_neg c3).symm.trans hk
        refine j_iconst (pc' := 81) (v := 0) rfl rfl dX4_suits_80 ?_
        obtain rfl := Option.some.inj hk
        exact j_zret rfl rfl ⟨rfl, rfl⟩ dX4_suits_81 hP
      · have hk := (if_pos c3).symm.trans hk
        refine j_iconst (pc' := 77) (v := 1) rfl rfl dX4_suits_76 ?_
        refine j_goto (tg := 81) rfl dX4_suits_77 ?_
        obtain rfl := Option.some.inj hk
        exact j_zret rfl rfl ⟨rfl, rfl⟩ dX4_suits_81 hP
  have hk := (if_neg cw2).symm.trans hk
  by_cases cw3 : x1 = 3
  · have hk := (if_pos cw3).symm.trans hk
    refine j_tin (off := 81) (tg := 82) cw3 (by decide) dX4_suits_1 ?_
    refine j_aload_n (pc' := 83) rfl rfl dX4_suits_82 ?_
    refine j_getf (pc' := 86) fg_RX4_15 (hp_e rfl) rfl rfl dX4_suits_83 ?_
    refine j_iconst (pc' := 87) (v := 2) rfl rfl dX4_suits_86 ?_
    refine j_ic_ne (pc' := 90) (tg := 94) rfl rfl dX4_suits_87 (fun c5 => ?_) (fun c5 => ?_)
    · have hk := (if_neg c5).symm.trans hk
      refine j_iconst (pc' := 95) (v := 0) rfl rfl dX4_suits_94 ?_
      obtain rfl := Option.some.inj hk
      exact j_zret rfl rfl ⟨rfl, rfl⟩ dX4_suits_95 hP
    · have hk := (if_pos c5).symm.trans hk
      refine j_iconst (pc' := 91) (v := 1) rfl rfl dX4_suits_90 ?_
      refine j_goto (tg := 95) rfl dX4_suits_91 ?_
      obtain rfl := Option.some.inj hk
      exact j_zret rfl rfl ⟨rfl, rfl⟩ dX4_suits_95 hP
  have hk := (if_neg cw3).symm.trans hk
  refine j_tout (tg := 96) (by have h0 : _ ≠ (0 : Int) := i32ne cw0; have h1 : _ ≠ (1 : Int) := i32ne cw1; have h2 : _ ≠ (2 : Int) := i32ne cw2; have h3 : _ ≠ (3 : Int) := i32ne cw3; omega) rfl dX4_suits_1 ?_
  refine j_iconst (pc' := 97) (v := 0) rfl rfl dX4_suits_96 ?_
  obtain rfl := Option.some.inj hk
  exact j_zret rfl rfl ⟨rfl, rfl⟩ dX4_suits_97 hP
theorem LR_suits {σ σ' : Mem} {x0 : Nat} {x1 : Int32} {r : Int32} (hk : kR_suits σ x0 x1 = some (r, σ')) : M l D dA H0 yX4_suits YR_suits [vR (some (20, x0)), vI x1] (hp σ) (fun x h' => x = some (vI r) ∧ h' = hp σ') :=
  m_of (j := 0) (by decide) rfl (fun hh => by cases hh) ⟨fun _ _ => trivial, rfl⟩ (le_b rfl) (qR_suits hk ⟨rfl, rfl⟩)
theorem qP_firstUnit_s42 {σ : Mem} {x1 : Int32} {x2 : Int32} {x4 : Int32} {x5 : Int32} {o3 : Option AV} {o6 : Option AV} {out : (Int32 × Mem) ⊕ ((Int32 × Mem) ⊕ (Mem))} (hk : kP_firstUnit_s42 x1 x2 x4 (x5, σ) = some out) (hc : ∀ (z5 : Int32) (ς : Mem), out = .inl (z5, ς) → ∀ (o3 o6 : Option AV), J l D dA H0 YP_firstUnit h0 Po 0 0 (hp ς) 42 [some (vR (some (11, 0))), some (vI x1), some (vI x2), o3, some (vI x4), some (vI z5), o6] []) (hx0 : ∀ (z6 : Int32) (ς : Mem), out = .inr (.inl (z6, ς)) → ∀ (o0 o1 o2 o3 o4 o5 : Option AV), J l D dA H0 YP_firstUnit h0 Po 0 0 (hp ς) 71 [o0, o1, o2, o3, o4, o5, some (vI z6)] []) (hx1 : ∀ (ς : Mem), out = .inr (.inr ς) → ∀ (o3 o4 o5 o6 : Option AV), J l D dA H0 YP_firstUnit h0 Po 0 0 (hp ς) 80 [some (vR (some (11, 0))), some (vI x1), some (vI x2), o3, o4, o5, o6] []) : J l D dA H0 YP_firstUnit h0 Po 0 0 (hp σ) 42 [some (vR (some (11, 0))), some (vI x1), some (vI x2), o3, some (vI x4), some (vI x5), o6] [] := by
  unfold kP_firstUnit_s42 at hk
  refine j_iload (pc' := 44) rfl rfl dX2_firstUnit_42 ?_
  refine j_iload (pc' := 46) rfl rfl dX2_firstUnit_44 ?_
  refine j_ic_ge (pc' := 49) (tg := 80) rfl rfl dX2_firstUnit_46 (fun c9 => ?_) (fun c9 => ?_)
  · have hk := (if_pos c9).symm.trans hk
    obtain rfl := Option.some.inj hk
    exact hx1 _ rfl _ _ _ _
  · have hk := (if_neg c9).symm.trans hk
    refine j_iload_n (pc' := 50) rfl rfl dX2_firstUnit_49 ?_
    refine j_iload (pc' := 52) rfl rfl dX2_firstUnit_50 ?_
    refine j_iconst (pc' := 53) (v := 0) rfl rfl dX2_firstUnit_52 ?_
    obtain ⟨⟨r4, σ5⟩, hx, hk⟩ := of_bind hk
    refine j_cs1 (pc' := 56) (LG_spotCode hx) cs_RX2_110 ⟨le_b rfl, le_b rfl⟩ rfl (le_b rfl) ⟨rfl, rfl⟩ ⟨le_b rfl, le_b rfl⟩ rfl rfl dX2_firstUnit_53 ?_
    refine j_istore (pc' := 58) (lt_b rfl) rfl rfl dX2_firstUnit_56 ?_
    refine j_aload_n (pc' := 59) rfl rfl dX2_firstUnit_58 ?_
    refine j_getf (pc' := 62) fg_RX2_29 (hp_e rfl) rfl rfl dX2_firstUnit_59 ?_
    refine j_iload (pc' := 64) rfl rfl dX2_firstUnit_62 ?_
    refine j_iload_n (pc' := 65) rfl rfl dX2_firstUnit_64 ?_
    obtain ⟨⟨r6, σ7⟩, hx, hk⟩ := of_bind hk
    refine j_cv1 (pc' := 68) (LV_take hx) cv_RX2_100 ⟨le_b rfl, le_b rfl⟩ (hp_e rfl) rfl rfl (le_b rfl) ⟨rfl, rfl⟩ ⟨le_b rfl, le_b rfl⟩ rfl rfl dX2_firstUnit_65 ?_
    refine j_if_eq (pc' := 71) (tg := 74) rfl rfl dX2_firstUnit_68 (fun c8 => ?_) (fun c8 => ?_)
    · have hk := (if_pos c8).symm.trans hk
      refine j_iinc (pc' := 77) (v := x5 + 1) rfl rfl (lt_b rfl) rfl rfl dX2_firstUnit_74 ?_
      refine j_goto (tg := 42) rfl dX2_firstUnit_77 ?_
      obtain rfl := Option.some.inj hk
      exact hc _ _ rfl _ _
    · have hk := (if_neg c8).symm.trans hk
      obtain rfl := Option.some.inj hk
      exact hx0 _ _ rfl _ _ _ _ _ _
theorem lP_firstUnit_s42 {x1 : Int32} {x2 : Int32} {x4 : Int32} : ∀ (n : Nat) (x5 : Int32) (σ : Mem) (e : ((Int32 × Mem) ⊕ (Mem))), loopF n (kP_firstUnit_s42 x1 x2 x4) (x5, σ) = some e → (∀ (z6 : Int32) (ς : Mem), e = (.inl (z6, ς)) → ∀ (o0 o1 o2 o3 o4 o5 : Option AV), J l D dA H0 YP_firstUnit h0 Po 0 0 (hp ς) 71 [o0, o1, o2, o3, o4, o5, some (vI z6)] []) → (∀ (ς : Mem), e = (.inr ς) → ∀ (o3 o4 o5 o6 : Option AV), J l D dA H0 YP_firstUnit h0 Po 0 0 (hp ς) 80 [some (vR (some (11, 0))), some (vI x1), some (vI x2), o3, o4, o5, o6] []) → ∀ (o3 o6 : Option AV), J l D dA H0 YP_firstUnit h0 Po 0 0 (hp σ) 42 [some (vR (some (11, 0))), some (vI x1), some (vI x2), o3, some (vI x4), some (vI x5), o6] []
  | 0, x5, σ, e, he => by cases he
  | n + 1, x5, σ, e, he => by
    intro hx0 hx1 o3 o6
    rcases loopF_succ he with ⟨s', h1, h2⟩ | h1
    · refine qP_firstUnit_s42 h1 ?_ ?_ ?_
      · intro z5 ς ee
        cases ee
        exact lP_firstUnit_s42 n z5 ς e h2 hx0 hx1
      · intro z6 ς ee
        cases ee
      · intro ς ee
        cases ee
    · refine qP_firstUnit_s42 h1 ?_ ?_ ?_
      · intro z5 ς ee
        cases ee
      · intro z6 ς ee
        exact hx0 z6 ς (Sum.inr.inj ee)
      · intro ς ee
        exact hx1 ς (Sum.inr.inj ee)
theorem qP_firstUnit_x80 {σ : Mem} {x1 : Int32} {x2 : Int32} {o3 : Option AV} {o4 : Option AV} {o5 : Option AV} {o6 : Option AV} {out : Int32 × Mem ⊕ ((Int32 × Mem) ⊕ (Mem))} (hk : kP_firstUnit_x80 σ x1 x2 = some out) (hc : ∀ (z2 : Int32) (ς : Mem), out = .inl (z2, ς) → ∀ (o3 o4 o5 o6 : Option AV), J l D dA H0 YP_firstUnit h0 Po 0 0 (hp ς) 2 [some (vR (some (11, 0))), some (vI x1), some (vI z2), o3, o4, o5, o6] []) (hx0 : ∀ (z6 : Int32) (ς : Mem), out = .inr (.inl (z6, ς)) → ∀ (o0 o1 o2 o3 o4 o5 : Option AV), J l D dA H0 YP_firstUnit h0 Po 0 0 (hp ς) 71 [o0, o1, o2, o3, o4, o5, some (vI z6)] []) (hx1 : ∀ (ς : Mem), out = .inr (.inr ς) → ∀ (o0 o1 o2 o3 o4 o5 o6 : Option AV), J l D dA H0 YP_firstUnit h0 Po 0 0 (hp ς) 86 [o0, o1, o2, o3, o4, o5, o6] []) : J l D dA H0 YP_firstUnit h0 Po 0 0 (hp σ) 80 [some (vR (some (11, 0))), some (vI x1), some (vI x2), o3, o4, o5, o6] [] := by
  unfold kP_firstUnit_x80 at hk
  refine j_iinc (pc' := 83) (v := x2 + 1) rfl rfl (lt_b rfl) rfl rfl dX2_firstUnit_80 ?_
  refine j_goto (tg := 2) rfl dX2_firstUnit_83 ?_
  obtain rfl := Option.some.inj hk
  exact hc _ _ rfl _ _ _ _
theorem qP_firstUnit_j37 {σ : Mem} {x1 : Int32} {x2 : Int32} {y0 : Int32} {o3 : Option AV} {o4 : Option AV} {o5 : Option AV} {o6 : Option AV} {out : Int32 × Mem ⊕ ((Int32 × Mem) ⊕ (Mem))} (hk : kP_firstUnit_j37 σ x1 x2 y0 = some out) (hc : ∀ (z2 : Int32) (ς : Mem), out = .inl (z2, ς) → ∀ (o3 o4 o5 o6 : Option AV), J l D dA H0 YP_firstUnit h0 Po 0 0 (hp ς) 2 [some (vR (some (11, 0))), some (vI x1), some (vI z2), o3, o4, o5, o6] []) (hx0 : ∀ (z6 : Int32) (ς : Mem), out = .inr (.inl (z6, ς)) → ∀ (o0 o1 o2 o3 o4 o5 : Option AV), J l D dA H0 YP_firstUnit h0 Po 0 0 (hp ς) 71 [o0, o1, o2, o3, o4, o5, some (vI z6)] []) (hx1 : ∀ (ς : Mem), out = .inr (.inr ς) → ∀ (o0 o1 o2 o3 o4 o5 o6 : Option AV), J l D dA H0 YP_firstUnit h0 Po 0 0 (hp ς) 86 [o0, o1, o2, o3, o4, o5, o6] []) : J l D dA H0 YP_firstUnit h0 Po 0 0 (hp σ) 37 [some (vR (some (11, 0))), some (vI x1), some (vI x2), o3, o4, o5, o6] [vI y0] := by
  unfold kP_firstUnit_j37 at hk
  refine j_istore (pc' := 39) (lt_b rfl) rfl rfl dX2_firstUnit_37 ?_
  refine j_iconst (pc' := 40) (v := 0) rfl rfl dX2_firstUnit_39 ?_
  refine j_istore (pc' := 42) (lt_b rfl) rfl rfl dX2_firstUnit_40 ?_
  obtain ⟨e, he, hk⟩ := of_bind hk
  refine lP_firstUnit_s42 FU _ _ e he ?_ ?_ _ _
  · intro z6 ς ee _ _ _ _ _ _
    subst ee
    obtain rfl := Option.some.inj hk
    exact hx0 _ _ rfl _ _ _ _ _ _
  · intro ς ee _ _ _ _
    subst ee
    exact qP_firstUnit_x80 hk hc hx0 hx1
theorem qP_firstUnit_j36 {σ : Mem} {x1 : Int32} {x2 : Int32} {o3 : Option AV} {o4 : Option AV} {o5 : Option AV} {o6 : Option AV} {out : Int32 × Mem ⊕ ((Int32 × Mem) ⊕ (Mem))} (hk : kP_firstUnit_j36 σ x1 x2 = some out) (hc : ∀ (z2 : Int32) (ς : Mem), out = .inl (z2, ς) → ∀ (o3 o4 o5 o6 : Option AV), J l D dA H0 YP_firstUnit h0 Po 0 0 (hp ς) 2 [some (vR (some (11, 0))), some (vI x1), some (vI z2), o3, o4, o5, o6] []) (hx0 : ∀ (z6 : Int32) (ς : Mem), out = .inr (.inl (z6, ς)) → ∀ (o0 o1 o2 o3 o4 o5 : Option AV), J l D dA H0 YP_firstUnit h0 Po 0 0 (hp ς) 71 [o0, o1, o2, o3, o4, o5, some (vI z6)] []) (hx1 : ∀ (ς : Mem), out = .inr (.inr ς) → ∀ (o0 o1 o2 o3 o4 o5 o6 : Option AV), J l D dA H0 YP_firstUnit h0 Po 0 0 (hp ς) 86 [o0, o1, o2, o3, o4, o5, o6] []) : J l D dA H0 YP_firstUnit h0 Po 0 0 (hp σ) 36 [some (vR (some (11, 0))), some (vI x1), some (vI x2), o3, o4, o5, o6] [] := by
  unfold kP_firstUnit_j36 at hk
  refine j_iconst (pc' := 37) (v := 0) rfl rfl dX2_firstUnit_36 ?_
  exact qP_firstUnit_j37 hk hc hx0 hx1
theorem qP_firstUnit_s2 {σ : Mem} {x1 : Int32} {x2 : Int32} {o3 : Option AV} {o4 : Option AV} {o5 : Option AV} {o6 : Option AV} {out : (Int32 × Mem) ⊕ ((Int32 × Mem) ⊕ (Mem))} (hk : kP_firstUnit_s2 x1 (x2, σ) = some out) (hc : ∀ (z2 : Int32) (ς : Mem), out = .inl (z2, ς) → ∀ (o3 o4 o5 o6 : Option AV), J l D dA H0 YP_firstUnit h0 Po 0 0 (hp ς) 2 [some (vR (some (11, 0))), some (vI x1), some (vI z2), o3, o4, o5, o6] []) (hx0 : ∀ (z6 : Int32) (ς : Mem), out = .inr (.inl (z6, ς)) → ∀ (o0 o1 o2 o3 o4 o5 : Option AV), J l D dA H0 YP_firstUnit h0 Po 0 0 (hp ς) 71 [o0, o1, o2, o3, o4, o5, some (vI z6)] []) (hx1 : ∀ (ς : Mem), out = .inr (.inr ς) → ∀ (o0 o1 o2 o3 o4 o5 o6 : Option AV), J l D dA H0 YP_firstUnit h0 Po 0 0 (hp ς) 86 [o0, o1, o2, o3, o4, o5, o6] []) : J l D dA H0 YP_firstUnit h0 Po 0 0 (hp σ) 2 [some (vR (some (11, 0))), some (vI x1), some (vI x2), o3, o4, o5, o6] [] := by
  unfold kP_firstUnit_s2 at hk
  refine j_iload_n (pc' := 3) rfl rfl dX2_firstUnit_2 ?_
  refine j_bipush (pc' := 5) (v := 16) rfl rfl dX2_firstUnit_3 ?_
  refine j_ic_ge (pc' := 8) (tg := 86) rfl rfl dX2_firstUnit_5 (fun c15 => ?_) (fun c15 => ?_)
  · have hk := (if_pos c15).symm.trans hk
    obtain rfl := Option.some.inj hk
    exact hx1 _ rfl _ _ _ _ _ _ _
  · have hk := (if_neg c15).symm.trans hk
    refine j_aload_n (pc' := 9) rfl rfl dX2_firstUnit_8 ?_
    refine j_getf (pc' := 12) fg_RX2_21 (hp_e rfl) rfl rfl dX2_firstUnit_9 ?_
    refine j_iload_n (pc' := 13) rfl rfl dX2_firstUnit_12 ?_
    obtain ⟨⟨r1, σ2⟩, hx, hk⟩ := of_bind hk
    refine j_cv1 (pc' := 16) (LH_roomAt hx) cv_RX2_104 ⟨le_b rfl, le_b rfl⟩ (hp_e rfl) rfl rfl (le_b rfl) ⟨rfl, rfl⟩ ⟨le_b rfl, le_b rfl⟩ rfl rfl dX2_firstUnit_13 ?_
    refine j_astore_n (pc' := 17) (lt_b rfl) rfl rfl dX2_firstUnit_16 ?_
    refine j_aload_n (pc' := 18) rfl rfl dX2_firstUnit_17 ?_
    rcases of_elim hk with ⟨hr, hk⟩ | ⟨j3, hr, hk⟩
    · subst hr
      refine j_ifnull (pc' := 21) (tg := 36) rfl rfl dX2_firstUnit_18 (fun _ => ?_) (fun _ hh => by cases hh)
      exact qP_firstUnit_j36 hk hc hx0 hx1
    · subst hr
      refine j_ifnull (pc' := 21) (tg := 36) rfl rfl dX2_firstUnit_18 (fun hh => by cases hh) (fun _ _ => ?_)
      refine j_aload_n (pc' := 22) rfl rfl dX2_firstUnit_21 ?_
      refine j_iload_n (pc' := 23) rfl rfl dX2_firstUnit_22 ?_
      obtain ⟨⟨r10, σ11⟩, hx, hk⟩ := of_bind hk
      refine j_cv1 (pc' := 26) (LR_suits hx) cv_RX2_119 ⟨le_b rfl, le_b rfl⟩ (hp_e rfl) rfl rfl (le_b rfl) ⟨rfl, rfl⟩ ⟨le_b rfl, le_b rfl⟩ rfl rfl dX2_firstUnit_23 ?_
      refine j_if_eq (pc' := 29) (tg := 36) rfl rfl dX2_firstUnit_26 (fun c14 => ?_) (fun c14 => ?_)
      · have hk := (if_pos c14).symm.trans hk
        exact qP_firstUnit_j36 hk hc hx0 hx1
      · have hk := (if_neg c14).symm.trans hk
        refine j_aload_n (pc' := 30) rfl rfl dX2_firstUnit_29 ?_
        obtain ⟨⟨r12, σ13⟩, hx, hk⟩ := of_bind hk
        refine j_cv1 (pc' := 33) (LR_units hx) cv_RX2_122 ⟨le_b rfl, le_b rfl⟩ (hp_e rfl) rfl rfl (le_b rfl) ⟨rfl, rfl⟩ ⟨le_b rfl, le_b rfl⟩ rfl rfl dX2_firstUnit_30 ?_
        refine j_goto (tg := 37) rfl dX2_firstUnit_33 ?_
        exact qP_firstUnit_j37 hk hc hx0 hx1
theorem lP_firstUnit_s2 {x1 : Int32} : ∀ (n : Nat) (x2 : Int32) (σ : Mem) (e : ((Int32 × Mem) ⊕ (Mem))), loopF n (kP_firstUnit_s2 x1) (x2, σ) = some e → (∀ (z6 : Int32) (ς : Mem), e = (.inl (z6, ς)) → ∀ (o0 o1 o2 o3 o4 o5 : Option AV), J l D dA H0 YP_firstUnit h0 Po 0 0 (hp ς) 71 [o0, o1, o2, o3, o4, o5, some (vI z6)] []) → (∀ (ς : Mem), e = (.inr ς) → ∀ (o0 o1 o2 o3 o4 o5 o6 : Option AV), J l D dA H0 YP_firstUnit h0 Po 0 0 (hp ς) 86 [o0, o1, o2, o3, o4, o5, o6] []) → ∀ (o3 o4 o5 o6 : Option AV), J l D dA H0 YP_firstUnit h0 Po 0 0 (hp σ) 2 [some (vR (some (11, 0))), some (vI x1), some (vI x2), o3, o4, o5, o6] []
  | 0, x2, σ, e, he => by cases he
  | n + 1, x2, σ, e, he => by
    intro hx0 hx1 o3 o4 o5 o6
    rcases loopF_succ he with ⟨s', h1, h2⟩ | h1
    · refine qP_firstUnit_s2 h1 ?_ ?_ ?_
      · intro z2 ς ee
        cases ee
        exact lP_firstUnit_s2 n z2 ς e h2 hx0 hx1
      · intro z6 ς ee
        cases ee
      · intro ς ee
        cases ee
    · refine qP_firstUnit_s2 h1 ?_ ?_ ?_
      · intro z2 ς ee
        cases ee
      · intro z6 ς ee
        exact hx0 z6 ς (Sum.inr.inj ee)
      · intro ς ee
        exact hx1 ς (Sum.inr.inj ee)
theorem qP_firstUnit_x71 {σ : Mem} {x6 : Int32} {o0 : Option AV} {o1 : Option AV} {o2 : Option AV} {o3 : Option AV} {o4 : Option AV} {o5 : Option AV} {res : Int32 × Mem} (hk : kP_firstUnit_x71 σ x6 = some res) (hP : Po (some (vI res.1)) (hp res.2)) : J l D dA H0 YP_firstUnit h0 Po 0 0 (hp σ) 71 [o0, o1, o2, o3, o4, o5, some (vI x6)] [] := by
  unfold kP_firstUnit_x71 at hk
  refine j_iload (pc' := 73) rfl rfl dX2_firstUnit_71 ?_
  obtain rfl := Option.some.inj hk
  exact j_iret rfl ⟨rfl, rfl⟩ dX2_firstUnit_73 hP
theorem qP_firstUnit_x86 {σ : Mem} {o0 : Option AV} {o1 : Option AV} {o2 : Option AV} {o3 : Option AV} {o4 : Option AV} {o5 : Option AV} {o6 : Option AV} {res : Int32 × Mem} (hk : kP_firstUnit_x86 σ = some res) (hP : Po (some (vI res.1)) (hp res.2)) : J l D dA H0 YP_firstUnit h0 Po 0 0 (hp σ) 86 [o0, o1, o2, o3, o4, o5, o6] [] := by
  unfold kP_firstUnit_x86 at hk
  refine j_iconst (pc' := 87) (v := (-1)) rfl rfl dX2_firstUnit_86 ?_
  obtain rfl := Option.some.inj hk
  exact j_iret rfl ⟨rfl, rfl⟩ dX2_firstUnit_87 hP
theorem qP_firstUnit {σ : Mem} {x1 : Int32} {o2 : Option AV} {o3 : Option AV} {o4 : Option AV} {o5 : Option AV} {o6 : Option AV} {res : Int32 × Mem} (hk : kP_firstUnit σ x1 = some res) (hP : Po (some (vI res.1)) (hp res.2)) : J l D dA H0 YP_firstUnit h0 Po 0 0 (hp σ) 0 [some (vR (some (11, 0))), some (vI x1), o2, o3, o4, o5, o6] [] := by
  unfold kP_firstUnit at hk
  refine j_iconst (pc' := 1) (v := 0) rfl rfl dX2_firstUnit_0 ?_
  refine j_istore_n (pc' := 2) (lt_b rfl) rfl rfl dX2_firstUnit_1 ?_
  obtain ⟨e, he, hk⟩ := of_bind hk
  refine lP_firstUnit_s2 FU _ _ e he ?_ ?_ _ _ _ _
  · intro z6 ς ee _ _ _ _ _ _
    subst ee
    exact qP_firstUnit_x71 hk hP
  · intro ς ee _ _ _ _ _ _ _
    subst ee
    exact qP_firstUnit_x86 hk hP
theorem LP_firstUnit {σ σ' : Mem} {x1 : Int32} {r : Int32} (hk : kP_firstUnit σ x1 = some (r, σ')) : M l D dA H0 yX2_firstUnit YP_firstUnit [vR (some (11, 0)), vI x1] (hp σ) (fun x h' => x = some (vI r) ∧ h' = hp σ') :=
  m_of (j := 5) (by decide) rfl (fun hh => by cases hh) ⟨fun _ _ => trivial, rfl⟩ (le_b rfl) (qP_firstUnit hk ⟨rfl, rfl⟩)
theorem qP_makeNight_s38 {σ : Mem} {x1 : Int32} {x2 : Int32} {o3 : Option AV} {out : (Int32 × Mem) ⊕ (Mem)} (hk : kP_makeNight_s38 x1 (x2, σ) = some out) (hc : ∀ (z2 : Int32) (ς : Mem), out = .inl (z2, ς) → ∀ (o3 : Option AV), J l D dA H0 YP_makeNight h0 Po 0 0 (hp ς) 38 [some (vR (some (11, 0))), some (vI x1), some (vI z2), o3] []) (hx0 : ∀ (ς : Mem), out = .inr ς → ∀ (o2 o3 : Option AV), J l D dA H0 YP_makeNight h0 Po 0 0 (hp ς) 89 [some (vR (some (11, 0))), some (vI x1), o2, o3] []) : J l D dA H0 YP_makeNight h0 Po 0 0 (hp σ) 38 [some (vR (some (11, 0))), some (vI x1), some (vI x2), o3] [] := by
  unfold kP_makeNight_s38 at hk
  refine j_iload_n (pc' := 39) rfl rfl dX2_makeNight_38 ?_
  refine j_aload_n (pc' := 40) rfl rfl dX2_makeNight_39 ?_
  refine j_getf (pc' := 43) fg_RX2_37 (hp_e rfl) rfl rfl dX2_makeNight_40 ?_
  refine j_ic_ge (pc' := 46) (tg := 89) rfl rfl dX2_makeNight_43 (fun c20 => ?_) (fun c20 => ?_)
  · have hk := (if_pos c20).symm.trans hk
    obtain rfl := Option.some.inj hk
    exact hx0 _ rfl _ _
  · have hk := (if_neg c20).symm.trans hk
    refine j_iload_n (pc' := 47) rfl rfl dX2_makeNight_46 ?_
    refine j_bipush (pc' := 49) (v := 40) rfl rfl dX2_makeNight_47 ?_
    refine j_ic_ge (pc' := 52) (tg := 89) rfl rfl dX2_makeNight_49 (fun c19 => ?_) (fun c19 => ?_)
    · have hk := (if_pos c19).symm.trans hk
      obtain rfl := Option.some.inj hk
      exact hx0 _ rfl _ _
    · have hk := (if_neg c19).symm.trans hk
      refine j_aload_n (pc' := 53) rfl rfl dX2_makeNight_52 ?_
      refine j_getf (pc' := 56) fg_RX2_11 (hp_e rfl) rfl rfl dX2_makeNight_53 ?_
      refine j_iload_n (pc' := 57) rfl rfl dX2_makeNight_56 ?_
      obtain ⟨g11, hk⟩ := of_ite hk
      refine j_aald (pc' := 58) ⟨le_b rfl, lt_b rfl⟩ (hp_e rfl) (inR_in g11) rfl dX2_makeNight_57 ?_
      rcases of_elim hk with ⟨hr, hk⟩ | ⟨j12, hr, hk⟩
      · refine j_top (v' := vR none) (congrArg (fun o => vR (Option.map (Prod.mk 21) o)) hr) ?_
        refine j_astore_n (pc' := 59) (lt_b rfl) rfl rfl dX2_makeNight_58 ?_
        refine j_aload_n (pc' := 60) rfl rfl dX2_makeNight_59 ?_
        refine j_ifnull (pc' := 63) (tg := 83) rfl rfl dX2_makeNight_60 (fun _ => ?_) (fun _ hh => by cases hh)
        refine j_iinc (pc' := 86) (v := x2 + 1) rfl rfl (lt_b rfl) rfl rfl dX2_makeNight_83 ?_
        refine j_goto (tg := 38) rfl dX2_makeNight_86 ?_
        obtain rfl := Option.some.inj hk
        exact hc _ _ rfl _
      · refine j_top (v' := vR (some (21, j12))) (congrArg (fun o => vR (Option.map (Prod.mk 21) o)) hr) ?_
        refine j_astore_n (pc' := 59) (lt_b rfl) rfl rfl dX2_makeNight_58 ?_
        refine j_aload_n (pc' := 60) rfl rfl dX2_makeNight_59 ?_
        refine j_ifnull (pc' := 63) (tg := 83) rfl rfl dX2_makeNight_60 (fun hh => by cases hh) (fun _ _ => ?_)
        refine j_aload_n (pc' := 64) rfl rfl dX2_makeNight_63 ?_
        refine j_getf (pc' := 67) fg_RX2_17 (hp_e rfl) rfl rfl dX2_makeNight_64 ?_
        refine j_iload_n (pc' := 68) rfl rfl dX2_makeNight_67 ?_
        obtain ⟨g13, hk⟩ := of_ite hk
        refine j_bald (pc' := 69) (hp_e rfl) (inR_in g13) rfl dX2_makeNight_68 ?_
        refine j_if_eq (pc' := 72) (tg := 83) rfl rfl dX2_makeNight_69 (fun c18 => ?_) (fun c18 => ?_)
        · have hk := (if_pos c18).symm.trans hk
          refine j_iinc (pc' := 86) (v := x2 + 1) rfl rfl (lt_b rfl) rfl rfl dX2_makeNight_83 ?_
          refine j_goto (tg := 38) rfl dX2_makeNight_86 ?_
          obtain rfl := Option.some.inj hk
          exact hc _ _ rfl _
        · have hk := (if_neg c18).symm.trans hk
          refine j_aload_n (pc' := 73) rfl rfl dX2_makeNight_72 ?_
          refine j_iload_n (pc' := 74) rfl rfl dX2_makeNight_73 ?_
          refine j_aload_n (pc' := 75) rfl rfl dX2_makeNight_74 ?_
          refine j_aload_n (pc' := 76) rfl rfl dX2_makeNight_75 ?_
          refine j_iload_n (pc' := 77) rfl rfl dX2_makeNight_76 ?_
          obtain ⟨⟨r14, σ15⟩, hx, hk⟩ := of_bind hk
          refine j_cv1 (pc' := 80) (LP_spotAgain hx) cv_RX2_49 ⟨le_b rfl, le_b rfl⟩ (hp_e rfl) rfl rfl (le_b rfl) ⟨rfl, rfl⟩ ⟨le_b rfl, le_b rfl⟩ rfl rfl dX2_makeNight_77 ?_
          obtain ⟨⟨_, σ17⟩, hx, hk⟩ := of_bind hk
          refine j_cv0 (pc' := 83) (LQ_setSpot hx) cv_RX2_53 ⟨le_b rfl, le_b rfl⟩ (hp_e rfl) rfl rfl (le_b rfl) ⟨rfl, rfl⟩ ⟨le_b rfl, le_b rfl⟩ rfl rfl dX2_makeNight_80 ?_
          refine j_iinc (pc' := 86) (v := x2 + 1) rfl rfl (lt_b rfl) rfl rfl dX2_makeNight_83 ?_
          refine j_goto (tg := 38) rfl dX2_makeNight_86 ?_
          obtain rfl := Option.some.inj hk
          exact hc _ _ rfl _
theorem lP_makeNight_s38 {x1 : Int32} : ∀ (n : Nat) (x2 : Int32) (σ : Mem) (e : (Mem)), loopF n (kP_makeNight_s38 x1) (x2, σ) = some e → (∀ (ς : Mem), e = ς → ∀ (o2 o3 : Option AV), J l D dA H0 YP_makeNight h0 Po 0 0 (hp ς) 89 [some (vR (some (11, 0))), some (vI x1), o2, o3] []) → ∀ (o3 : Option AV), J l D dA H0 YP_makeNight h0 Po 0 0 (hp σ) 38 [some (vR (some (11, 0))), some (vI x1), some (vI x2), o3] []
  | 0, x2, σ, e, he => by cases he
  | n + 1, x2, σ, e, he => by
    intro hx0 o3
    rcases loopF_succ he with ⟨s', h1, h2⟩ | h1
    · refine qP_makeNight_s38 h1 ?_ ?_
      · intro z2 ς ee
        cases ee
        exact lP_makeNight_s38 n z2 ς e h2 hx0
      · intro ς ee
        cases ee
    · refine qP_makeNight_s38 h1 ?_ ?_
      · intro z2 ς ee
        cases ee
      · intro ς ee
        exact hx0 ς (Sum.inr.inj ee)
theorem qP_makeNight_j159 {σ : Mem} {x1 : Int32} {x2 : Int32} {y0 : Int32} {y1 : Int32} {y2 : Option Nat} {o3 : Option AV} {out : Int32 × Mem ⊕ (Mem)} (hk : kP_makeNight_j159 σ x1 x2 y0 y1 y2 = some out) (hc : ∀ (z2 : Int32) (ς : Mem), out = .inl (z2, ς) → ∀ (o3 : Option AV), J l D dA H0 YP_makeNight h0 Po 0 0 (hp ς) 91 [some (vR (some (11, 0))), some (vI x1), some (vI z2), o3] []) (hx0 : ∀ (ς : Mem), out = .inr ς → ∀ (o0 o1 o2 o3 : Option AV), J l D dA H0 YP_makeNight h0 Po 0 0 (hp ς) 168 [o0, o1, o2, o3] []) : J l D dA H0 YP_makeNight h0 Po 0 0 (hp σ) 159 [some (vR (some (11, 0))), some (vI x1), some (vI x2), o3] [vI y0, vI y1, vR (y2.map (Prod.mk 21))] := by
  unfold kP_makeNight_j159 at hk
  rcases of_elim hk with ⟨hr, hk⟩ | ⟨j28, hr, hk⟩
  · subst hr
    cases hk
  · subst hr
    obtain ⟨⟨_, σ30⟩, hx, hk⟩ := of_bind hk
    refine j_cv0 (pc' := 162) (LQ_setSpot hx) cv_RX2_53 ⟨le_b rfl, le_b rfl⟩ (hp_e rfl) rfl rfl (le_b rfl) ⟨rfl, rfl⟩ ⟨le_b rfl, le_b rfl⟩ rfl rfl dX2_makeNight_159 ?_
    refine j_iinc (pc' := 165) (v := x2 + 1) rfl rfl (lt_b rfl) rfl rfl dX2_makeNight_162 ?_
    refine j_goto (tg := 91) rfl dX2_makeNight_165 ?_
    obtain rfl := Option.some.inj hk
    exact hc _ _ rfl _
theorem qP_makeNight_s91 {σ : Mem} {x1 : Int32} {x2 : Int32} {o3 : Option AV} {out : (Int32 × Mem) ⊕ (Mem)} (hk : kP_makeNight_s91 x1 (x2, σ) = some out) (hc : ∀ (z2 : Int32) (ς : Mem), out = .inl (z2, ς) → ∀ (o3 : Option AV), J l D dA H0 YP_makeNight h0 Po 0 0 (hp ς) 91 [some (vR (some (11, 0))), some (vI x1), some (vI z2), o3] []) (hx0 : ∀ (ς : Mem), out = .inr ς → ∀ (o0 o1 o2 o3 : Option AV), J l D dA H0 YP_makeNight h0 Po 0 0 (hp ς) 168 [o0, o1, o2, o3] []) : J l D dA H0 YP_makeNight h0 Po 0 0 (hp σ) 91 [some (vR (some (11, 0))), some (vI x1), some (vI x2), o3] [] := by
  unfold kP_makeNight_s91 at hk
  refine j_iload_n (pc' := 92) rfl rfl dX2_makeNight_91 ?_
  refine j_aload_n (pc' := 93) rfl rfl dX2_makeNight_92 ?_
  refine j_getf (pc' := 96) fg_RX2_37 (hp_e rfl) rfl rfl dX2_makeNight_93 ?_
  refine j_ic_ge (pc' := 99) (tg := 168) rfl rfl dX2_makeNight_96 (fun c37 => ?_) (fun c37 => ?_)
  · have hk := (if_pos c37).symm.trans hk
    obtain rfl := Option.some.inj hk
    exact hx0 _ rfl _ _ _ _
  · have hk := (if_neg c37).symm.trans hk
    refine j_iload_n (pc' := 100) rfl rfl dX2_makeNight_99 ?_
    refine j_bipush (pc' := 102) (v := 40) rfl rfl dX2_makeNight_100 ?_
    refine j_ic_ge (pc' := 105) (tg := 168) rfl rfl dX2_makeNight_102 (fun c36 => ?_) (fun c36 => ?_)
    · have hk := (if_pos c36).symm.trans hk
      obtain rfl := Option.some.inj hk
      exact hx0 _ rfl _ _ _ _
    · have hk := (if_neg c36).symm.trans hk
      refine j_aload_n (pc' := 106) rfl rfl dX2_makeNight_105 ?_
      refine j_getf (pc' := 109) fg_RX2_11 (hp_e rfl) rfl rfl dX2_makeNight_106 ?_
      refine j_iload_n (pc' := 110) rfl rfl dX2_makeNight_109 ?_
      obtain ⟨g21, hk⟩ := of_ite hk
      refine j_aald (pc' := 111) ⟨le_b rfl, lt_b rfl⟩ (hp_e rfl) (inR_in g21) rfl dX2_makeNight_110 ?_
      rcases of_elim hk with ⟨hr, hk⟩ | ⟨j22, hr, hk⟩
      · refine j_top (v' := vR none) (congrArg (fun o => vR (Option.map (Prod.mk 21) o)) hr) ?_
        refine j_astore_n (pc' := 112) (lt_b rfl) rfl rfl dX2_makeNight_111 ?_
        refine j_aload_n (pc' := 113) rfl rfl dX2_makeNight_112 ?_
        refine j_ifnull (pc' := 116) (tg := 162) rfl rfl dX2_makeNight_113 (fun _ => ?_) (fun _ hh => by cases hh)
        refine j_iinc (pc' := 165) (v := x2 + 1) rfl rfl (lt_b rfl) rfl rfl dX2_makeNight_162 ?_
        refine j_goto (tg := 91) rfl dX2_makeNight_165 ?_
        obtain rfl := Option.some.inj hk
        exact hc _ _ rfl _
      · refine j_top (v' := vR (some (21, j22))) (congrArg (fun o => vR (Option.map (Prod.mk 21) o)) hr) ?_
        refine j_astore_n (pc' := 112) (lt_b rfl) rfl rfl dX2_makeNight_111 ?_
        refine j_aload_n (pc' := 113) rfl rfl dX2_makeNight_112 ?_
        refine j_ifnull (pc' := 116) (tg := 162) rfl rfl dX2_makeNight_113 (fun hh => by cases hh) (fun _ _ => ?_)
        refine j_aload_n (pc' := 117) rfl rfl dX2_makeNight_116 ?_
        refine j_getf (pc' := 120) fg_RX2_17 (hp_e rfl) rfl rfl dX2_makeNight_117 ?_
        refine j_iload_n (pc' := 121) rfl rfl dX2_makeNight_120 ?_
        obtain ⟨g23, hk⟩ := of_ite hk
        refine j_bald (pc' := 122) (hp_e rfl) (inR_in g23) rfl dX2_makeNight_121 ?_
        refine j_if_eq (pc' := 125) (tg := 162) rfl rfl dX2_makeNight_122 (fun c35 => ?_) (fun c35 => ?_)
        · have hk := (if_pos c35).symm.trans hk
          refine j_iinc (pc' := 165) (v := x2 + 1) rfl rfl (lt_b rfl) rfl rfl dX2_makeNight_162 ?_
          refine j_goto (tg := 91) rfl dX2_makeNight_165 ?_
          obtain rfl := Option.some.inj hk
          exact hc _ _ rfl _
        · have hk := (if_neg c35).symm.trans hk
          refine j_aload_n (pc' := 126) rfl rfl dX2_makeNight_125 ?_
          refine j_iload_n (pc' := 127) rfl rfl dX2_makeNight_126 ?_
          obtain ⟨⟨r24, σ25⟩, hx, hk⟩ := of_bind hk
          refine j_cv1 (pc' := 130) (LQ_spotIn hx) cv_RX2_57 ⟨le_b rfl, le_b rfl⟩ (hp_e rfl) rfl rfl (le_b rfl) ⟨rfl, rfl⟩ ⟨le_b rfl, le_b rfl⟩ rfl rfl dX2_makeNight_127 ?_
          refine j_iconst (pc' := 131) (v := (-1)) rfl rfl dX2_makeNight_130 ?_
          refine j_ic_ne (pc' := 134) (tg := 162) rfl rfl dX2_makeNight_131 (fun c34 => ?_) (fun c34 => ?_)
          · have hk := (if_neg c34).symm.trans hk
            refine j_iinc (pc' := 165) (v := x2 + 1) rfl rfl (lt_b rfl) rfl rfl dX2_makeNight_162 ?_
            refine j_goto (tg := 91) rfl dX2_makeNight_165 ?_
            obtain rfl := Option.some.inj hk
            exact hc _ _ rfl _
          · have hk := (if_pos c34).symm.trans hk
            refine j_aload_n (pc' := 135) rfl rfl dX2_makeNight_134 ?_
            refine j_iload_n (pc' := 136) rfl rfl dX2_makeNight_135 ?_
            refine j_aload_n (pc' := 137) rfl rfl dX2_makeNight_136 ?_
            refine j_getf (pc' := 140) fg_RX2_61 (hp_e rfl) rfl rfl dX2_makeNight_137 ?_
            refine j_iconst (pc' := 141) (v := 4) rfl rfl dX2_makeNight_140 ?_
            refine j_ic_ne (pc' := 144) (tg := 151) rfl rfl dX2_makeNight_141 (fun c33 => ?_) (fun c33 => ?_)
            · have hk := (if_neg c33).symm.trans hk
              refine j_aload_n (pc' := 152) rfl rfl dX2_makeNight_151 ?_
              refine j_aload_n (pc' := 153) rfl rfl dX2_makeNight_152 ?_
              refine j_getf (pc' := 156) fg_RX2_61 (hp_e rfl) rfl rfl dX2_makeNight_153 ?_
              obtain ⟨⟨r26, σ27⟩, hx, hk⟩ := of_bind hk
              refine j_cv1 (pc' := 159) (LP_firstUnit hx) cv_RX2_68 ⟨le_b rfl, le_b rfl⟩ (hp_e rfl) rfl rfl (le_b rfl) ⟨rfl, rfl⟩ ⟨le_b rfl, le_b rfl⟩ rfl rfl dX2_makeNight_156 ?_
              exact qP_makeNight_j159 hk hc hx0
            · have hk := (if_pos c33).symm.trans hk
              refine j_aload_n (pc' := 145) rfl rfl dX2_makeNight_144 ?_
              obtain ⟨⟨r31, σ32⟩, hx, hk⟩ := of_bind hk
              refine j_cv1 (pc' := 148) (LP_firstSuite hx) cv_RX2_64 ⟨le_b rfl, le_b rfl⟩ (hp_e rfl) rfl rfl (le_b rfl) ⟨rfl, rfl⟩ ⟨le_b rfl, le_b rfl⟩ rfl rfl dX2_makeNight_145 ?_
              refine j_goto (tg := 159) rfl dX2_makeNight_148 ?_
              exact qP_makeNight_j159 hk hc hx0
theorem lP_makeNight_s91 {x1 : Int32} : ∀ (n : Nat) (x2 : Int32) (σ : Mem) (e : (Mem)), loopF n (kP_makeNight_s91 x1) (x2, σ) = some e → (∀ (ς : Mem), e = ς → ∀ (o0 o1 o2 o3 : Option AV), J l D dA H0 YP_makeNight h0 Po 0 0 (hp ς) 168 [o0, o1, o2, o3] []) → ∀ (o3 : Option AV), J l D dA H0 YP_makeNight h0 Po 0 0 (hp σ) 91 [some (vR (some (11, 0))), some (vI x1), some (vI x2), o3] []
  | 0, x2, σ, e, he => by cases he
  | n + 1, x2, σ, e, he => by
    intro hx0 o3
    rcases loopF_succ he with ⟨s', h1, h2⟩ | h1
    · refine qP_makeNight_s91 h1 ?_ ?_
      · intro z2 ς ee
        cases ee
        exact lP_makeNight_s91 n z2 ς e h2 hx0
      · intro ς ee
        cases ee
    · refine qP_makeNight_s91 h1 ?_ ?_
      · intro z2 ς ee
        cases ee
      · intro ς ee
        exact hx0 ς (Sum.inr.inj ee)
theorem qP_makeNight_x168 {σ : Mem} {o0 : Option AV} {o1 : Option AV} {o2 : Option AV} {o3 : Option AV} {res : Unit × Mem} (hk : kP_makeNight_x168 σ = some res) (hP : Po none (hp res.2)) : J l D dA H0 YP_makeNight h0 Po 0 0 (hp σ) 168 [o0, o1, o2, o3] [] := by
  unfold kP_makeNight_x168 at hk
  obtain rfl := Option.some.inj hk
  exact j_ret rfl ⟨rfl, rfl⟩ dX2_makeNight_168 hP
theorem qP_makeNight_x89 {σ : Mem} {x1 : Int32} {o2 : Option AV} {o3 : Option AV} {res : Unit × Mem} (hk : kP_makeNight_x89 σ x1 = some res) (hP : Po none (hp res.2)) : J l D dA H0 YP_makeNight h0 Po 0 0 (hp σ) 89 [some (vR (some (11, 0))), some (vI x1), o2, o3] [] := by
  unfold kP_makeNight_x89 at hk
  refine j_iconst (pc' := 90) (v := 0) rfl rfl dX2_makeNight_89 ?_
  refine j_istore_n (pc' := 91) (lt_b rfl) rfl rfl dX2_makeNight_90 ?_
  obtain ⟨e, he, hk⟩ := of_bind hk
  refine lP_makeNight_s91 FU _ _ e he ?_ _
  · intro ς ee _ _ _ _
    subst ee
    exact qP_makeNight_x168 hk hP
theorem qP_makeNight {σ : Mem} {x1 : Int32} {o2 : Option AV} {o3 : Option AV} {res : Unit × Mem} (hk : kP_makeNight σ x1 = some res) (hP : Po none (hp res.2)) : J l D dA H0 YP_makeNight h0 Po 0 0 (hp σ) 0 [some (vR (some (11, 0))), some (vI x1), o2, o3] [] := by
  unfold kP_makeNight at hk
  refine j_aload_n (pc' := 1) rfl rfl dX2_makeNight_0 ?_
  refine j_iload_n (pc' := 2) rfl rfl dX2_makeNight_1 ?_
  obtain ⟨⟨_, σ2⟩, hx, hk⟩ := of_bind hk
  refine j_cv0 (pc' := 5) (LP_gather hx) cv_RX2_33 ⟨le_b rfl, le_b rfl⟩ (hp_e rfl) rfl rfl (le_b rfl) ⟨rfl, rfl⟩ ⟨le_b rfl, le_b rfl⟩ rfl rfl dX2_makeNight_2 ?_
  refine j_aload_n (pc' := 6) rfl rfl dX2_makeNight_5 ?_
  refine j_getf (pc' := 9) fg_RX2_37 (hp_e rfl) rfl rfl dX2_makeNight_6 ?_
  refine j_if_ne (pc' := 12) (tg := 13) rfl rfl dX2_makeNight_9 (fun c38 => ?_) (fun c38 => ?_)
  · have hk := (if_neg c38).symm.trans hk
    refine j_aload_n (pc' := 14) rfl rfl dX2_makeNight_13 ?_
    refine j_getf (pc' := 17) fg_RX2_29 (hp_e rfl) rfl rfl dX2_makeNight_14 ?_
    refine j_iload_n (pc' := 18) rfl rfl dX2_makeNight_17 ?_
    obtain ⟨⟨_, σ4⟩, hx, hk⟩ := of_bind hk
    refine j_cv0 (pc' := 21) (LV_begin hx) cv_RX2_41 ⟨le_b rfl, le_b rfl⟩ (hp_e rfl) rfl rfl (le_b rfl) ⟨rfl, rfl⟩ ⟨le_b rfl, le_b rfl⟩ rfl rfl dX2_makeNight_18 ?_
    refine j_aload_n (pc' := 22) rfl rfl dX2_makeNight_21 ?_
    refine j_iconst (pc' := 23) (v := 2) rfl rfl dX2_makeNight_22 ?_
    obtain ⟨⟨_, σ6⟩, hx, hk⟩ := of_bind hk
    refine j_cv0 (pc' := 26) (LP_keepThose hx) cv_RX2_46 ⟨le_b rfl, le_b rfl⟩ (hp_e rfl) rfl rfl (le_b rfl) ⟨rfl, rfl⟩ ⟨le_b rfl, le_b rfl⟩ rfl rfl dX2_makeNight_23 ?_
    refine j_aload_n (pc' := 27) rfl rfl dX2_makeNight_26 ?_
    refine j_iconst (pc' := 28) (v := 1) rfl rfl dX2_makeNight_27 ?_
    obtain ⟨⟨_, σ8⟩, hx, hk⟩ := of_bind hk
    refine j_cv0 (pc' := 31) (LP_keepThose hx) cv_RX2_46 ⟨le_b rfl, le_b rfl⟩ (hp_e rfl) rfl rfl (le_b rfl) ⟨rfl, rfl⟩ ⟨le_b rfl, le_b rfl⟩ rfl rfl dX2_makeNight_28 ?_
    refine j_aload_n (pc' := 32) rfl rfl dX2_makeNight_31 ?_
    refine j_iconst (pc' := 33) (v := 0) rfl rfl dX2_makeNight_32 ?_
    obtain ⟨⟨_, σ10⟩, hx, hk⟩ := of_bind hk
    refine j_cv0 (pc' := 36) (LP_keepThose hx) cv_RX2_46 ⟨le_b rfl, le_b rfl⟩ (hp_e rfl) rfl rfl (le_b rfl) ⟨rfl, rfl⟩ ⟨le_b rfl, le_b rfl⟩ rfl rfl dX2_makeNight_33 ?_
    refine j_iconst (pc' := 37) (v := 0) rfl rfl dX2_makeNight_36 ?_
    refine j_istore_n (pc' := 38) (lt_b rfl) rfl rfl dX2_makeNight_37 ?_
    obtain ⟨e, he, hk⟩ := of_bind hk
    refine lP_makeNight_s38 FU _ _ e he ?_ _
    · intro ς ee _ _
      subst ee
      exact qP_makeNight_x89 hk hP
  · have hk := (if_pos c38).symm.trans hk
    obtain rfl := Option.some.inj hk
    exact j_ret rfl ⟨rfl, rfl⟩ dX2_makeNight_12 hP
theorem LP_makeNight {σ σ' : Mem} {x1 : Int32} {r : Unit} (hk : kP_makeNight σ x1 = some (r, σ')) : M l D dA H0 yX2_makeNight YP_makeNight [vR (some (11, 0)), vI x1] (hp σ) (fun x h' => x = none ∧ h' = hp σ') :=
  m_of (j := 2) (by decide) rfl (fun hh => by cases hh) ⟨fun _ _ => trivial, rfl⟩ (le_b rfl) (qP_makeNight hk ⟨rfl, rfl⟩)
abbrev rawQ : AE := .inr (3, [vI 0, vI 0, vI 0, vI 0, vI 0, vI 0, vL 0, vR none])
theorem hp_mk2 {σ σ' : Mem} {t i t2 : Nat} {x x2 : AE} (ht : t2 ≠ t) (ho : ∀ t' i', (t', i') ≠ (t, i) → (t', i') ≠ (t2, i) → mI σ' t' i' = mI σ t' i' ∧ mL σ' t' i' = mL σ t' i' ∧ mR σ' t' i' = mR σ t' i' ∧ mV σ' t' i' = mV σ t' i') (hv : mV σ' t i = true) (hv2 : mV σ' t2 i = true) (hb : hb' t i (mI σ' t i) (mL σ' t i) (mR σ' t i) = some x) (hb2 : hb' t2 i (mI σ' t2 i) (mL σ' t2 i) (mR σ' t2 i) = some x2) {h : Hp} (h1 : h (t, i) = some x) (h2 : h (t2, i) = some x2) (h3 : ∀ q, q ≠ (t, i) → q ≠ (t2, i) → h q = hp σ q) : h = hp σ' := by
  funext q
  obtain ⟨t', i'⟩ := q
  by_cases e : (t', i') = (t, i)
  · cases e
    rw [h1]
    unfold hp
    rw [if_pos hv]
    exact hb.symm
  · by_cases e2 : (t', i') = (t2, i)
    · cases e2
      rw [h2]
      unfold hp
      rw [if_pos hv2]
      exact hb2.symm
    · rw [h3 _ e e2]
      obtain ⟨a1, a2, a3, a4⟩ := ho t' i' e e2
      unfold hp
      rw [a1, a2, a3, a4]
theorem LQ_init {σ σ' : Mem} {x0 : Nat} {x1 x2 x3 : Int32} {r : Unit} (hk : kQ_init σ x0 x1 x2 x3 = some (r, σ')) : M l D dA H0 yX3_init YQ_init [vR (some (21, x0)), vI x1, vI x2, vI x3] (up (hp σ) (21, x0) rawQ) (fun x h' => x = none ∧ h' = hp σ') := by
  obtain ⟨hfree, hk⟩ := of_ite hk
  obtain ⟨-, rfl⟩ := Prod.mk.inj (Option.some.inj hk)
  refine m_of (j := 0) (by decide) rfl (fun _ => rfl) ⟨fun _ _ => trivial, rfl⟩ (le_b rfl) ?_
  have n2 : ((22, x0) : Hd) ≠ (21, x0) := fun h => by cases h
  have key : ∀ z : Int32, z = (if x3 = (-1) then 1 else 0) → J l D dA H0 YQ_init (nx (up (hp σ) (21, x0) rawQ)) (fun x h' => x = none ∧ h' = hp (sW (sV (sV (sL (sI (sI (sI (sI (sI (sI σ 21 x0 0 x1) 21 x0 1 x2) 21 x0 2 x3) 21 x0 3 (if x3 = (-1) then 1 else 0)) 21 x0 4 0) 21 x0 5 0) 21 x0 6 0) 21 x0) 22 x0) 22 x0 (fun j => if j < 60 then (-1) else 0))) (0 + 1) (0 + 60) (up (up (up (hp σ) (21, x0) rawQ) (22, x0) (.inl (0, 60, .inl (fun _ => 0)))) (21, x0) (.inr (3, [vI x1, vI x2, vI x3, vI 0, vI 0, vI 0, vL 0, vR (some (22, x0))]))) 38 [some (vR (some (21, x0))), some (vI x1), some (vI x2), some (vI x3)] [vI z, vR (some (21, x0))] := by
    intro z hz
    subst hz
    refine j_pc (pc' := 41) (ty := .int) fg_RX3_25 ttX3 rfl (Or.inl rfl) (fun _ => ⟨rfl, rfl⟩) (lt_b rfl) rfl dX3_init_38 ?_
    refine j_aload_n (pc' := 42) rfl rfl dX3_init_41 ?_
    refine j_getf (pc' := 45) fg_RX3_9 (ce_e up_self) rfl rfl dX3_init_42 ?_
    refine j_iconst (pc' := 46) (v := (-1)) (by decide) rfl dX3_init_45 ?_
    refine j_cs0 (pc' := 49) (fillG (n := 60) (f := fun _ => 0) (by simp [up]) (by decide)) cs_RX3_28 ⟨le_b rfl, le_b rfl⟩ rfl (le_b rfl) ⟨rfl, rfl⟩ ⟨le_b rfl, le_b rfl⟩ rfl rfl dX3_init_46 ?_
    refine j_ret rfl ⟨rfl, rfl⟩ dX3_init_49 ⟨rfl, ?_⟩
    refine hp_mk2 (σ := σ) (t := 21) (i := x0) (t2 := 22) (by decide) (fun t' i' e e2 => ?_) (by simp [mV, sV, sW]) (by simp [mV, sV, sW]) rfl rfl ?_ ?_ ?_
    · have e3 : ∀ {s : Mem} {f : Nat → Int32}, mI (sW s 22 x0 f) t' i' = mI s t' i' := by
        intro s f
        funext j
        have : ¬ (t' = 22 ∧ i' = x0) := fun h => e2 (by rw [h.1, h.2])
        simp [mI, sW, this]
      refine ⟨?_, ?_, ?_, ?_⟩
      · rw [e3]; simp only [oI e, mI_sV, mI_sL]
      · show mL (sV (sV _ _ _) _ _) t' i' = _
        simp only [mL_sV, oL e, mL_sI]
      · rfl
      · show mV (sV (sV _ _ _) _ _) t' i' = _
        rw [oV e2, oV e]
        rfl
    · simp [up, n2, mI, mL, sI, sL, sV, sW]
    · simp [up]
      funext j
      simp [mI, sW, sI, sL, sV]
    · intro q h1 h2
      simp [up, h1, h2]
  refine j_aload_n (pc' := 1) rfl rfl dX3_init_0 ?_
  refine j_oinit (pc' := 4) (gd_of (i := 458) (by decide +kernel) rfl) w_o1 w_o2 (le_b rfl) (le_b rfl) rfl dX3_init_1 ?_
  refine j_aload_n (pc' := 5) rfl rfl dX3_init_4 ?_
  refine j_bipush (pc' := 7) (v := 60) rfl rfl dX3_init_5 ?_
  refine j_newa (22, x0) (pc' := 9) (a := 0) (aa := .inl (fun _ => 0)) (N := 60) (by simp [up, n2]; exact hp_no hfree) ⟨by decide, rfl⟩ (gd_of (i := 123) (by decide +kernel) rfl) ⟨by decide, by decide⟩ (by decide) ⟨fun _ _ => rfl, fun _ => trivial⟩ ⟨le_b rfl, le_b rfl⟩ rfl dX3_init_7 ?_
  refine j_putf (pc' := 12) (ty := .array .int) fg_RX3_9 ttX3 rfl (Or.inr ⟨rfl, rfl, rfl⟩) (fun _ => ⟨rfl, rfl⟩) (ce_e (x := rawQ) (by simp [up, Ne.symm n2])) (lt_b rfl) rfl dX3_init_9 ?_
  refine j_aload_n (pc' := 13) rfl rfl dX3_init_12 ?_
  refine j_iload_n (pc' := 14) rfl rfl dX3_init_13 ?_
  refine j_pc (pc' := 17) (ty := .int) fg_RX3_15 ttX3 rfl (Or.inr ⟨rfl, rfl, rfl⟩) (fun _ => ⟨rfl, rfl⟩) (lt_b rfl) rfl dX3_init_14 ?_
  refine j_aload_n (pc' := 18) rfl rfl dX3_init_17 ?_
  refine j_iload_n (pc' := 19) rfl rfl dX3_init_18 ?_
  refine j_pc (pc' := 22) (ty := .int) fg_RX3_19 ttX3 rfl (Or.inr ⟨rfl, rfl, rfl⟩) (fun _ => ⟨rfl, rfl⟩) (lt_b rfl) rfl dX3_init_19 ?_
  refine j_aload_n (pc' := 23) rfl rfl dX3_init_22 ?_
  refine j_iload_n (pc' := 24) rfl rfl dX3_init_23 ?_
  refine j_pc (pc' := 27) (ty := .int) fg_RX3_22 ttX3 rfl (Or.inr ⟨rfl, rfl, rfl⟩) (fun _ => ⟨rfl, rfl⟩) (lt_b rfl) rfl dX3_init_24 ?_
  refine j_aload_n (pc' := 28) rfl rfl dX3_init_27 ?_
  refine j_iload_n (pc' := 29) rfl rfl dX3_init_28 ?_
  refine j_iconst (pc' := 30) (v := (-1)) (by decide) rfl dX3_init_29 ?_
  refine j_ic_ne (pc' := 33) (tg := 37) rfl rfl dX3_init_30 (fun c1 => ?_) (fun c1 => ?_)
  · refine j_iconst (pc' := 38) (v := 0) rfl rfl dX3_init_37 ?_
    exact key 0 (by rw [if_neg c1])
  · refine j_iconst (pc' := 34) (v := 1) rfl rfl dX3_init_33 ?_
    refine j_goto (tg := 38) rfl dX3_init_34 ?_
    exact key 1 (by rw [if_pos c1])
theorem qQ_setNights {σ : Mem} {x0 : Nat} {x1 : Int32} {x2 : Int32} {x3 : Int64} {o4 : Option AV} {res : Unit × Mem} (hk : kQ_setNights σ x0 x1 x2 x3 = some res) (hP : Po none (hp res.2)) : J l D dA H0 YQ_setNights h0 Po 0 0 (hp σ) 0 [some (vR (some (21, x0))), some (vI x1), some (vI x2), some (vL x3), o4] [] := by
  unfold kQ_setNights at hk
  refine j_aload_n (pc' := 1) rfl rfl dX3_setNights_0 ?_
  refine j_iload_n (pc' := 2) rfl rfl dX3_setNights_1 ?_
  refine j_pi (pc' := 5) (ty := .int) fg_RX3_34 ttX3 rfl rfl ⟨rfl, rfl⟩ rfl (lt_b rfl) rfl rfl dX3_setNights_2 ?_
  refine j_aload_n (pc' := 6) rfl rfl dX3_setNights_5 ?_
  refine j_iload_n (pc' := 7) rfl rfl dX3_setNights_6 ?_
  refine j_pi (pc' := 10) (ty := .int) fg_RX3_37 ttX3 rfl rfl ⟨rfl, rfl⟩ rfl (lt_b rfl) rfl rfl dX3_setNights_7 ?_
  refine j_aload_n (pc' := 11) rfl rfl dX3_setNights_10 ?_
  refine j_lload_n (pc' := 12) rfl rfl dX3_setNights_11 ?_
  refine j_pl (pc' := 15) fg_RX3_40 ttX3 rfl rfl rfl (lt_b rfl) rfl rfl dX3_setNights_12 ?_
  obtain rfl := Option.some.inj hk
  exact j_ret rfl ⟨rfl, rfl⟩ dX3_setNights_15 hP
theorem LQ_setNights {σ σ' : Mem} {x0 : Nat} {x1 : Int32} {x2 : Int32} {x3 : Int64} {r : Unit} (hk : kQ_setNights σ x0 x1 x2 x3 = some (r, σ')) : M l D dA H0 yX3_setNights YQ_setNights [vR (some (21, x0)), vI x1, vI x2, vL x3] (hp σ) (fun x h' => x = none ∧ h' = hp σ') :=
  m_of (j := 0) (by decide) rfl (fun hh => by cases hh) ⟨fun _ _ => trivial, rfl⟩ (le_b rfl) (qQ_setNights hk ⟨rfl, rfl⟩)
theorem qQ_nightsHad_s4 {σ : Mem} {x0 : Nat} {x1 : Int32} {x2 : Int32} {x3 : Int32} {out : (Int32 × Int32 × Mem) ⊕ (Int32 × Mem)} (hk : kQ_nightsHad_s4 x0 x1 (x2, x3, σ) = some out) (hc : ∀ (z2 : Int32) (z3 : Int32) (ς : Mem), out = .inl (z2, z3, ς) → ∀ (_ : Unit), J l D dA H0 YQ_nightsHad h0 Po 0 0 (hp ς) 4 [some (vR (some (21, x0))), some (vI x1), some (vI z2), some (vI z3)] []) (hx0 : ∀ (z2 : Int32) (ς : Mem), out = .inr (z2, ς) → ∀ (o0 o1 o3 : Option AV), J l D dA H0 YQ_nightsHad h0 Po 0 0 (hp ς) 32 [o0, o1, some (vI z2), o3] []) : J l D dA H0 YQ_nightsHad h0 Po 0 0 (hp σ) 4 [some (vR (some (21, x0))), some (vI x1), some (vI x2), some (vI x3)] [] := by
  unfold kQ_nightsHad_s4 at hk
  refine j_iload_n (pc' := 5) rfl rfl dX3_nightsHad_4 ?_
  refine j_iload_n (pc' := 6) rfl rfl dX3_nightsHad_5 ?_
  refine j_ic_ge (pc' := 9) (tg := 32) rfl rfl dX3_nightsHad_6 (fun c4 => ?_) (fun c4 => ?_)
  · have hk := (if_pos c4).symm.trans hk
    obtain rfl := Option.some.inj hk
    exact hx0 _ _ rfl _ _ _
  · have hk := (if_neg c4).symm.trans hk
    refine j_iload_n (pc' := 10) rfl rfl dX3_nightsHad_9 ?_
    refine j_aload_n (pc' := 11) rfl rfl dX3_nightsHad_10 ?_
    refine j_iload_n (pc' := 12) rfl rfl dX3_nightsHad_11 ?_
    obtain ⟨⟨r1, σ2⟩, hx, hk⟩ := of_bind hk
    refine j_cv1 (pc' := 15) (LQ_spotIn hx) cv_RX3_48 ⟨le_b rfl, le_b rfl⟩ (hp_e rfl) rfl rfl (le_b rfl) ⟨rfl, rfl⟩ ⟨le_b rfl, le_b rfl⟩ rfl rfl dX3_nightsHad_12 ?_
    refine j_iconst (pc' := 16) (v := (-1)) rfl rfl dX3_nightsHad_15 ?_
    refine j_ic_eq (pc' := 19) (tg := 23) rfl rfl dX3_nightsHad_16 (fun c3 => ?_) (fun c3 => ?_)
    · have hk := (if_pos c3).symm.trans hk
      refine j_iconst (pc' := 24) (v := 0) rfl rfl dX3_nightsHad_23 ?_
      refine j_iadd (pc' := 25) rfl dX3_nightsHad_24 ?_
      refine j_istore_n (pc' := 26) (lt_b rfl) rfl rfl dX3_nightsHad_25 ?_
      refine j_iinc (pc' := 29) (v := x3 + 1) rfl rfl (lt_b rfl) rfl rfl dX3_nightsHad_26 ?_
      refine j_goto (tg := 4) rfl dX3_nightsHad_29 ?_
      obtain rfl := Option.some.inj hk
      exact hc _ _ _ rfl ()
    · have hk := (if_neg c3).symm.trans hk
      refine j_iconst (pc' := 20) (v := 1) rfl rfl dX3_nightsHad_19 ?_
      refine j_goto (tg := 24) rfl dX3_nightsHad_20 ?_
      refine j_iadd (pc' := 25) rfl dX3_nightsHad_24 ?_
      refine j_istore_n (pc' := 26) (lt_b rfl) rfl rfl dX3_nightsHad_25 ?_
      refine j_iinc (pc' := 29) (v := x3 + 1) rfl rfl (lt_b rfl) rfl rfl dX3_nightsHad_26 ?_
      refine j_goto (tg := 4) rfl dX3_nightsHad_29 ?_
      obtain rfl := Option.some.inj hk
      exact hc _ _ _ rfl ()
theorem lQ_nightsHad_s4 {x0 : Nat} {x1 : Int32} : ∀ (n : Nat) (x2 : Int32) (x3 : Int32) (σ : Mem) (e : (Int32 × Mem)), loopF n (kQ_nightsHad_s4 x0 x1) (x2, x3, σ) = some e → (∀ (z2 : Int32) (ς : Mem), e = (z2, ς) → ∀ (o0 o1 o3 : Option AV), J l D dA H0 YQ_nightsHad h0 Po 0 0 (hp ς) 32 [o0, o1, some (vI z2), o3] []) → ∀ (_ : Unit), J l D dA H0 YQ_nightsHad h0 Po 0 0 (hp σ) 4 [some (vR (some (21, x0))), some (vI x1), some (vI x2), some (vI x3)] []
  | 0, x2, x3, σ, e, he => by cases he
  | n + 1, x2, x3, σ, e, he => by
    intro hx0 u
    rcases loopF_succ he with ⟨s', h1, h2⟩ | h1
    · refine qQ_nightsHad_s4 h1 ?_ ?_
      · intro z2 z3 ς ee
        cases ee
        exact lQ_nightsHad_s4 n z2 z3 ς e h2 hx0
      · intro z2 ς ee
        cases ee
    · refine qQ_nightsHad_s4 h1 ?_ ?_
      · intro z2 z3 ς ee
        cases ee
      · intro z2 ς ee
        exact hx0 z2 ς (Sum.inr.inj ee)
theorem qQ_nightsHad_x32 {σ : Mem} {x2 : Int32} {o0 : Option AV} {o1 : Option AV} {o3 : Option AV} {res : Int32 × Mem} (hk : kQ_nightsHad_x32 σ x2 = some res) (hP : Po (some (vI res.1)) (hp res.2)) : J l D dA H0 YQ_nightsHad h0 Po 0 0 (hp σ) 32 [o0, o1, some (vI x2), o3] [] := by
  unfold kQ_nightsHad_x32 at hk
  refine j_iload_n (pc' := 33) rfl rfl dX3_nightsHad_32 ?_
  obtain rfl := Option.some.inj hk
  exact j_iret rfl ⟨rfl, rfl⟩ dX3_nightsHad_33 hP
theorem qQ_nightsHad {σ : Mem} {x0 : Nat} {x1 : Int32} {o2 : Option AV} {o3 : Option AV} {res : Int32 × Mem} (hk : kQ_nightsHad σ x0 x1 = some res) (hP : Po (some (vI res.1)) (hp res.2)) : J l D dA H0 YQ_nightsHad h0 Po 0 0 (hp σ) 0 [some (vR (some (21, x0))), some (vI x1), o2, o3] [] := by
  unfold kQ_nightsHad at hk
  refine j_iconst (pc' := 1) (v := 0) rfl rfl dX3_nightsHad_0 ?_
  refine j_istore_n (pc' := 2) (lt_b rfl) rfl rfl dX3_nightsHad_1 ?_
  refine j_iconst (pc' := 3) (v := 0) rfl rfl dX3_nightsHad_2 ?_
  refine j_istore_n (pc' := 4) (lt_b rfl) rfl rfl dX3_nightsHad_3 ?_
  obtain ⟨e, he, hk⟩ := of_bind hk
  refine lQ_nightsHad_s4 FU _ _ _ e he ?_ ()
  · intro z2 ς ee _ _ _
    subst ee
    exact qQ_nightsHad_x32 hk hP
theorem LQ_nightsHad {σ σ' : Mem} {x0 : Nat} {x1 : Int32} {r : Int32} (hk : kQ_nightsHad σ x0 x1 = some (r, σ')) : M l D dA H0 yX3_nightsHad YQ_nightsHad [vR (some (21, x0)), vI x1] (hp σ) (fun x h' => x = some (vI r) ∧ h' = hp σ') :=
  m_of (j := 2) (by decide) rfl (fun hh => by cases hh) ⟨fun _ _ => trivial, rfl⟩ (le_b rfl) (qQ_nightsHad hk ⟨rfl, rfl⟩)
end LINK
