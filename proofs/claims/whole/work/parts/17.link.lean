section LINK
variable {l : Launch} {D : va_G} {dA : Nat → ClassId} {H0 : Heap} {h0 : Hx} {Po : Option AV → Hp → Prop}
theorem qJ_bitCount {σ : Mem} {x0 : Int32} {res : Int32 × Mem} (hk : kJ_bitCount σ x0 = some res) (hP : Po (some (vI res.1)) (hp res.2)) : J l D dA H0 YJ_bitCount h0 Po 0 0 (hp σ) 0 [some (vI x0)] [] := by
  unfold kJ_bitCount at hk
  refine j_iload_n (pc' := 1) rfl rfl dJ6_bitCount_0f7a4_0 ?_
  refine j_iload_n (pc' := 2) rfl rfl dJ6_bitCount_0f7a4_1 ?_
  refine j_iconst (pc' := 3) (v := 1) rfl rfl dJ6_bitCount_0f7a4_2 ?_
  refine j_iushr (pc' := 4) rfl dJ6_bitCount_0f7a4_3 ?_
  refine j_ldcw (pc' := 7) (v := 1431655765) (gd_of (i := 650) (by decide +kernel) rfl) rfl dJ6_bitCount_0f7a4_4 ?_
  refine j_iand (pc' := 8) rfl dJ6_bitCount_0f7a4_7 ?_
  refine j_isub (pc' := 9) rfl dJ6_bitCount_0f7a4_8 ?_
  refine j_istore_n (pc' := 10) (lt_b rfl) rfl rfl dJ6_bitCount_0f7a4_9 ?_
  refine j_iload_n (pc' := 11) rfl rfl dJ6_bitCount_0f7a4_10 ?_
  refine j_ldcw (pc' := 14) (v := 858993459) (gd_of (i := 651) (by decide +kernel) rfl) rfl dJ6_bitCount_0f7a4_11 ?_
  refine j_iand (pc' := 15) rfl dJ6_bitCount_0f7a4_14 ?_
  refine j_iload_n (pc' := 16) rfl rfl dJ6_bitCount_0f7a4_15 ?_
  refine j_iconst (pc' := 17) (v := 2) rfl rfl dJ6_bitCount_0f7a4_16 ?_
  refine j_iushr (pc' := 18) rfl dJ6_bitCount_0f7a4_17 ?_
  refine j_ldcw (pc' := 21) (v := 858993459) (gd_of (i := 651) (by decide +kernel) rfl) rfl dJ6_bitCount_0f7a4_18 ?_
  refine j_iand (pc' := 22) rfl dJ6_bitCount_0f7a4_21 ?_
  refine j_iadd (pc' := 23) rfl dJ6_bitCount_0f7a4_22 ?_
  refine j_istore_n (pc' := 24) (lt_b rfl) rfl rfl dJ6_bitCount_0f7a4_23 ?_
  refine j_iload_n (pc' := 25) rfl rfl dJ6_bitCount_0f7a4_24 ?_
  refine j_iload_n (pc' := 26) rfl rfl dJ6_bitCount_0f7a4_25 ?_
  refine j_iconst (pc' := 27) (v := 4) rfl rfl dJ6_bitCount_0f7a4_26 ?_
  refine j_iushr (pc' := 28) rfl dJ6_bitCount_0f7a4_27 ?_
  refine j_iadd (pc' := 29) rfl dJ6_bitCount_0f7a4_28 ?_
  refine j_ldcw (pc' := 32) (v := 252645135) (gd_of (i := 652) (by decide +kernel) rfl) rfl dJ6_bitCount_0f7a4_29 ?_
  refine j_iand (pc' := 33) rfl dJ6_bitCount_0f7a4_32 ?_
  refine j_istore_n (pc' := 34) (lt_b rfl) rfl rfl dJ6_bitCount_0f7a4_33 ?_
  refine j_iload_n (pc' := 35) rfl rfl dJ6_bitCount_0f7a4_34 ?_
  refine j_iload_n (pc' := 36) rfl rfl dJ6_bitCount_0f7a4_35 ?_
  refine j_bipush (pc' := 38) (v := 8) rfl rfl dJ6_bitCount_0f7a4_36 ?_
  refine j_iushr (pc' := 39) rfl dJ6_bitCount_0f7a4_38 ?_
  refine j_iadd (pc' := 40) rfl dJ6_bitCount_0f7a4_39 ?_
  refine j_istore_n (pc' := 41) (lt_b rfl) rfl rfl dJ6_bitCount_0f7a4_40 ?_
  refine j_iload_n (pc' := 42) rfl rfl dJ6_bitCount_0f7a4_41 ?_
  refine j_iload_n (pc' := 43) rfl rfl dJ6_bitCount_0f7a4_42 ?_
  refine j_bipush (pc' := 45) (v := 16) rfl rfl dJ6_bitCount_0f7a4_43 ?_
  refine j_iushr (pc' := 46) rfl dJ6_bitCount_0f7a4_45 ?_
  refine j_iadd (pc' := 47) rfl dJ6_bitCount_0f7a4_46 ?_
  refine j_istore_n (pc' := 48) (lt_b rfl) rfl rfl dJ6_bitCount_0f7a4_47 ?_
  refine j_iload_n (pc' := 49) rfl rfl dJ6_bitCount_0f7a4_48 ?_
  refine j_bipush (pc' := 51) (v := 63) rfl rfl dJ6_bitCount_0f7a4_49 ?_
  refine j_iand (pc' := 52) rfl dJ6_bitCount_0f7a4_51 ?_
  obtain rfl := Option.some.inj hk
  exact j_iret rfl ⟨rfl, rfl⟩ dJ6_bitCount_0f7a4_52 hP
theorem LJ_bitCount {σ σ' : Mem} {x0 : Int32} {r : Int32} (hk : kJ_bitCount σ x0 = some (r, σ')) : M l D dA H0 yJ6_bitCount_0f7a4 YJ_bitCount [vI x0] (hp σ) (fun x h' => x = some (vI r) ∧ h' = hp σ') :=
  m_of (j := 0) (by decide) rfl (fun hh => by cases hh) ⟨fun _ _ => trivial, rfl⟩ (le_b rfl) (qJ_bitCount hk ⟨rfl, rfl⟩)
theorem qG_floors_j69 {σ : Mem} {x2 : Int32} {x3 : Int32} {x4 : Int32} {x5 : Int32} {y0 : Option Nat} {o1 : Option AV} {o6 : Option AV} {o7 : Option AV} {out : Int32 × Int32 × Mem ⊕ (Int32 × Mem)} (hk : kG_floors_j69 σ x2 x3 x4 x5 y0 = some out) (hc : ∀ (z4 : Int32) (z5 : Int32) (ς : Mem), out = .inl (z4, z5, ς) → ∀ (o1 o6 o7 : Option AV), J l D dA H0 YG_floors h0 Po 0 0 (hp ς) 15 [some (vR (some (1, 0))), o1, some (vI x2), some (vI x3), some (vI z4), some (vI z5), o6, o7] []) (hx0 : ∀ (z4 : Int32) (ς : Mem), out = .inr (z4, ς) → ∀ (o0 o1 o2 o3 o5 o6 o7 : Option AV), J l D dA H0 YG_floors h0 Po 0 0 (hp ς) 94 [o0, o1, o2, o3, some (vI z4), o5, o6, o7] []) : J l D dA H0 YG_floors h0 Po 0 0 (hp σ) 69 [some (vR (some (1, 0))), o1, some (vI x2), some (vI x3), some (vI x4), some (vI x5), o6, o7] [vR (y0.map (Prod.mk 20))] := by
  unfold kG_floors_j69 at hk
  refine j_astore (pc' := 71) (lt_b rfl) rfl rfl dX8_floors_69 ?_
  refine j_aload (pc' := 73) rfl rfl dX8_floors_71 ?_
  rcases of_elim hk with ⟨hr, hk⟩ | ⟨j6, hr, hk⟩
  · subst hr
    refine j_ifnull (pc' := 76) (tg := 88) rfl rfl dX8_floors_73 (fun _ => ?_) (fun _ hh => by cases hh)
    refine j_iinc (pc' := 91) (v := x5 + 1) rfl rfl (lt_b rfl) rfl rfl dX8_floors_88 ?_
    refine j_goto (tg := 15) rfl dX8_floors_91 ?_
    obtain rfl := Option.some.inj hk
    exact hc _ _ _ rfl _ _ _
  · subst hr
    refine j_ifnull (pc' := 76) (tg := 88) rfl rfl dX8_floors_73 (fun hh => by cases hh) (fun _ _ => ?_)
    refine j_iload (pc' := 78) rfl rfl dX8_floors_76 ?_
    refine j_iconst (pc' := 79) (v := 1) rfl rfl dX8_floors_78 ?_
    refine j_aload (pc' := 81) rfl rfl dX8_floors_79 ?_
    refine j_getf (pc' := 84) fg_RX8_100 (hp_e rfl) rfl rfl dX8_floors_81 ?_
    refine j_ishl (pc' := 85) rfl dX8_floors_84 ?_
    refine j_ior (pc' := 86) rfl dX8_floors_85 ?_
    refine j_istore (pc' := 88) (lt_b rfl) rfl rfl dX8_floors_86 ?_
    refine j_iinc (pc' := 91) (v := x5 + 1) rfl rfl (lt_b rfl) rfl rfl dX8_floors_88 ?_
    refine j_goto (tg := 15) rfl dX8_floors_91 ?_
    obtain rfl := Option.some.inj hk
    exact hc _ _ _ rfl _ _ _
theorem qG_floors_s15 {σ : Mem} {x2 : Int32} {x3 : Int32} {x4 : Int32} {x5 : Int32} {o1 : Option AV} {o6 : Option AV} {o7 : Option AV} {out : (Int32 × Int32 × Mem) ⊕ (Int32 × Mem)} (hk : kG_floors_s15 x2 x3 (x4, x5, σ) = some out) (hc : ∀ (z4 : Int32) (z5 : Int32) (ς : Mem), out = .inl (z4, z5, ς) → ∀ (o1 o6 o7 : Option AV), J l D dA H0 YG_floors h0 Po 0 0 (hp ς) 15 [some (vR (some (1, 0))), o1, some (vI x2), some (vI x3), some (vI z4), some (vI z5), o6, o7] []) (hx0 : ∀ (z4 : Int32) (ς : Mem), out = .inr (z4, ς) → ∀ (o0 o1 o2 o3 o5 o6 o7 : Option AV), J l D dA H0 YG_floors h0 Po 0 0 (hp ς) 94 [o0, o1, o2, o3, some (vI z4), o5, o6, o7] []) : J l D dA H0 YG_floors h0 Po 0 0 (hp σ) 15 [some (vR (some (1, 0))), o1, some (vI x2), some (vI x3), some (vI x4), some (vI x5), o6, o7] [] := by
  unfold kG_floors_s15 at hk
  refine j_iload (pc' := 17) rfl rfl dX8_floors_15 ?_
  refine j_iload_n (pc' := 18) rfl rfl dX8_floors_17 ?_
  refine j_ic_gt (pc' := 21) (tg := 94) rfl rfl dX8_floors_18 (fun c14 => ?_) (fun c14 => ?_)
  · have hk := (if_pos c14).symm.trans hk
    obtain rfl := Option.some.inj hk
    exact hx0 _ _ rfl _ _ _ _ _ _ _
  · have hk := (if_neg c14).symm.trans hk
    refine j_iload (pc' := 23) rfl rfl dX8_floors_21 ?_
    refine j_aload_n (pc' := 24) rfl rfl dX8_floors_23 ?_
    refine j_getf (pc' := 27) fg_RX8_19 (hp_e rfl) rfl rfl dX8_floors_24 ?_
    refine j_getf (pc' := 30) fg_RX8_208 (hp_e rfl) rfl rfl dX8_floors_27 ?_
    refine j_ic_ge (pc' := 33) (tg := 94) rfl rfl dX8_floors_30 (fun c13 => ?_) (fun c13 => ?_)
    · have hk := (if_pos c13).symm.trans hk
      obtain rfl := Option.some.inj hk
      exact hx0 _ _ rfl _ _ _ _ _ _ _
    · have hk := (if_neg c13).symm.trans hk
      refine j_aload_n (pc' := 34) rfl rfl dX8_floors_33 ?_
      refine j_getf (pc' := 37) fg_RX8_19 (hp_e rfl) rfl rfl dX8_floors_34 ?_
      refine j_iload (pc' := 39) rfl rfl dX8_floors_37 ?_
      obtain ⟨⟨r3, σ4⟩, hx, hk⟩ := of_bind hk
      refine j_cv1 (pc' := 42) (LB_at hx) cv_RX8_140 ⟨le_b rfl, le_b rfl⟩ (hp_e rfl) rfl rfl (le_b rfl) ⟨rfl, rfl⟩ ⟨le_b rfl, le_b rfl⟩ rfl rfl dX8_floors_39 ?_
      refine j_astore (pc' := 44) (lt_b rfl) rfl rfl dX8_floors_42 ?_
      refine j_aload (pc' := 46) rfl rfl dX8_floors_44 ?_
      rcases of_elim hk with ⟨hr, hk⟩ | ⟨j5, hr, hk⟩
      · subst hr
        refine j_ifnonnull (pc' := 49) (tg := 53) rfl rfl dX8_floors_46 (fun _ hh => by cases hh) (fun _ => ?_)
        refine j_null (pc' := 50) rfl dX8_floors_49 ?_
        refine j_goto (tg := 69) rfl dX8_floors_50 ?_
        exact qG_floors_j69 hk hc hx0
      · subst hr
        refine j_ifnonnull (pc' := 49) (tg := 53) rfl rfl dX8_floors_46 (fun _ _ => ?_) (fun hh => by cases hh)
        refine j_aload_n (pc' := 54) rfl rfl dX8_floors_53 ?_
        refine j_getf (pc' := 57) fg_RX8_10 (hp_e rfl) rfl rfl dX8_floors_54 ?_
        refine j_aload (pc' := 59) rfl rfl dX8_floors_57 ?_
        refine j_iload_n (pc' := 60) rfl rfl dX8_floors_59 ?_
        obtain ⟨⟨r7, σ8⟩, hx, hk⟩ := of_bind hk
        refine j_cv1 (pc' := 63) (LQ_spotIn hx) cv_RX8_205 ⟨le_b rfl, le_b rfl⟩ (hp_e rfl) rfl rfl (le_b rfl) ⟨rfl, rfl⟩ ⟨le_b rfl, le_b rfl⟩ rfl rfl dX8_floors_60 ?_
        obtain ⟨⟨r9, σ10⟩, hx, hk⟩ := of_bind hk
        refine j_cs1 (pc' := 66) (LG_placeOf hx) cs_RX8_216 ⟨le_b rfl, le_b rfl⟩ rfl (le_b rfl) ⟨rfl, rfl⟩ ⟨le_b rfl, le_b rfl⟩ rfl rfl dX8_floors_63 ?_
        obtain ⟨⟨r11, σ12⟩, hx, hk⟩ := of_bind hk
        refine j_cv1 (pc' := 69) (LH_roomAt hx) cv_RX8_71 ⟨le_b rfl, le_b rfl⟩ (hp_e rfl) rfl rfl (le_b rfl) ⟨rfl, rfl⟩ ⟨le_b rfl, le_b rfl⟩ rfl rfl dX8_floors_66 ?_
        exact qG_floors_j69 hk hc hx0
theorem lG_floors_s15 {x2 : Int32} {x3 : Int32} : ∀ (n : Nat) (x4 : Int32) (x5 : Int32) (σ : Mem) (e : (Int32 × Mem)), loopF n (kG_floors_s15 x2 x3) (x4, x5, σ) = some e → (∀ (z4 : Int32) (ς : Mem), e = (z4, ς) → ∀ (o0 o1 o2 o3 o5 o6 o7 : Option AV), J l D dA H0 YG_floors h0 Po 0 0 (hp ς) 94 [o0, o1, o2, o3, some (vI z4), o5, o6, o7] []) → ∀ (o1 o6 o7 : Option AV), J l D dA H0 YG_floors h0 Po 0 0 (hp σ) 15 [some (vR (some (1, 0))), o1, some (vI x2), some (vI x3), some (vI x4), some (vI x5), o6, o7] []
  | 0, x4, x5, σ, e, he => by cases he
  | n + 1, x4, x5, σ, e, he => by
    intro hx0 o1 o6 o7
    rcases loopF_succ he with ⟨s', h1, h2⟩ | h1
    · refine qG_floors_s15 h1 ?_ ?_
      · intro z4 z5 ς ee
        cases ee
        exact lG_floors_s15 n z4 z5 ς e h2 hx0
      · intro z4 ς ee
        cases ee
    · refine qG_floors_s15 h1 ?_ ?_
      · intro z4 z5 ς ee
        cases ee
      · intro z4 ς ee
        exact hx0 z4 ς (Sum.inr.inj ee)
theorem qG_floors_x94 {σ : Mem} {x4 : Int32} {o0 : Option AV} {o1 : Option AV} {o2 : Option AV} {o3 : Option AV} {o5 : Option AV} {o6 : Option AV} {o7 : Option AV} {res : Int32 × Mem} (hk : kG_floors_x94 σ x4 = some res) (hP : Po (some (vI res.1)) (hp res.2)) : J l D dA H0 YG_floors h0 Po 0 0 (hp σ) 94 [o0, o1, o2, o3, some (vI x4), o5, o6, o7] [] := by
  unfold kG_floors_x94 at hk
  refine j_iload (pc' := 96) rfl rfl dX8_floors_94 ?_
  obtain ⟨⟨r15, σ16⟩, hx, hk⟩ := of_bind hk
  refine j_cs1 (pc' := 99) (LJ_bitCount hx) cs_RX8_219 ⟨le_b rfl, le_b rfl⟩ rfl (le_b rfl) ⟨rfl, rfl⟩ ⟨le_b rfl, le_b rfl⟩ rfl rfl dX8_floors_96 ?_
  obtain rfl := Option.some.inj hk
  exact j_iret rfl ⟨rfl, rfl⟩ dX8_floors_99 hP
theorem qG_floors {σ : Mem} {x1 : Int32} {x2 : Int32} {x3 : Int32} {o4 : Option AV} {o5 : Option AV} {o6 : Option AV} {o7 : Option AV} {res : Int32 × Mem} (hk : kG_floors σ x1 x2 x3 = some res) (hP : Po (some (vI res.1)) (hp res.2)) : J l D dA H0 YG_floors h0 Po 0 0 (hp σ) 0 [some (vR (some (1, 0))), some (vI x1), some (vI x2), some (vI x3), o4, o5, o6, o7] [] := by
  unfold kG_floors at hk
  refine j_aload_n (pc' := 1) rfl rfl dX8_floors_0 ?_
  refine j_iload_n (pc' := 2) rfl rfl dX8_floors_1 ?_
  obtain ⟨⟨_, σ2⟩, hx, hk⟩ := of_bind hk
  refine j_cv0 (pc' := 5) (LG_planUpTo hx) cv_RX8_167 ⟨le_b rfl, le_b rfl⟩ (hp_e rfl) rfl rfl (le_b rfl) ⟨rfl, rfl⟩ ⟨le_b rfl, le_b rfl⟩ rfl rfl dX8_floors_2 ?_
  refine j_iconst (pc' := 6) (v := 0) rfl rfl dX8_floors_5 ?_
  refine j_istore (pc' := 8) (lt_b rfl) rfl rfl dX8_floors_6 ?_
  refine j_iload_n (pc' := 9) rfl rfl dX8_floors_8 ?_
  refine j_iconst (pc' := 10) (v := 0) rfl rfl dX8_floors_9 ?_
  refine j_max (pc' := 13) ⟨gd_of (i := 262) (by decide +kernel) rfl, gd_of (i := 263) (by decide +kernel) rfl, gd_of (i := 50) (by decide +kernel) rfl, gd_of (i := 264) (by decide +kernel) rfl⟩ (le_b rfl) (le_b rfl) ⟨le_b rfl, le_b rfl⟩ rfl dX8_floors_10 ?_
  refine j_istore (pc' := 15) (lt_b rfl) rfl rfl dX8_floors_13 ?_
  obtain ⟨e, he, hk⟩ := of_bind hk
  refine lG_floors_s15 FU _ _ _ e he ?_ _ _ _
  · intro z4 ς ee _ _ _ _ _ _ _
    subst ee
    exact qG_floors_x94 hk hP
theorem LG_floors {σ σ' : Mem} {x1 : Int32} {x2 : Int32} {x3 : Int32} {r : Int32} (hk : kG_floors σ x1 x2 x3 = some (r, σ')) : M l D dA H0 yX8_floors YG_floors [vR (some (1, 0)), vI x1, vI x2, vI x3] (hp σ) (fun x h' => x = some (vI r) ∧ h' = hp σ') :=
  m_of (j := 4) (by decide) rfl (fun hh => by cases hh) ⟨fun _ _ => trivial, rfl⟩ (le_b rfl) (qG_floors hk ⟨rfl, rfl⟩)
theorem qG_lacks {σ : Mem} {x1 : Int32} {res : Int32 × Mem} (hk : kG_lacks σ x1 = some res) (hP : Po (some (vI res.1)) (hp res.2)) : J l D dA H0 YG_lacks h0 Po 0 0 (hp σ) 0 [some (vR (some (1, 0))), some (vI x1)] [] := by
  unfold kG_lacks at hk
  refine j_iload_n (pc' := 1) rfl rfl dX8_lacks_0 ?_
  obtain ⟨⟨r1, σ2⟩, hx, hk⟩ := of_bind hk
  refine j_cs1 (pc' := 4) (LG_isNight hx) cs_RX8_110 ⟨le_b rfl, le_b rfl⟩ rfl (le_b rfl) ⟨rfl, rfl⟩ ⟨le_b rfl, le_b rfl⟩ rfl rfl dX8_lacks_1 ?_
  refine j_if_eq (pc' := 7) (tg := 15) rfl rfl dX8_lacks_4 (fun c6 => ?_) (fun c6 => ?_)
  · have hk := (if_pos c6).symm.trans hk
    refine j_iconst (pc' := 16) (v := (-1)) rfl rfl dX8_lacks_15 ?_
    obtain rfl := Option.some.inj hk
    exact j_iret rfl ⟨rfl, rfl⟩ dX8_lacks_16 hP
  · have hk := (if_neg c6).symm.trans hk
    refine j_iload_n (pc' := 8) rfl rfl dX8_lacks_7 ?_
    refine j_aload_n (pc' := 9) rfl rfl dX8_lacks_8 ?_
    refine j_getf (pc' := 12) fg_RX8_120 (hp_e rfl) rfl rfl dX8_lacks_9 ?_
    refine j_ic_ge (pc' := 15) (tg := 17) rfl rfl dX8_lacks_12 (fun c5 => ?_) (fun c5 => ?_)
    · have hk := (if_pos c5).symm.trans hk
      refine j_aload_n (pc' := 18) rfl rfl dX8_lacks_17 ?_
      refine j_iload_n (pc' := 19) rfl rfl dX8_lacks_18 ?_
      refine j_iconst (pc' := 20) (v := (-1)) rfl rfl dX8_lacks_19 ?_
      refine j_iconst (pc' := 21) (v := (-1)) rfl rfl dX8_lacks_20 ?_
      obtain ⟨⟨r3, σ4⟩, hx, hk⟩ := of_bind hk
      refine j_cv1 (pc' := 24) (LG_shortOf hx) cv_RX8_224 ⟨le_b rfl, le_b rfl⟩ (hp_e rfl) rfl rfl (le_b rfl) ⟨rfl, rfl⟩ ⟨le_b rfl, le_b rfl⟩ rfl rfl dX8_lacks_21 ?_
      obtain rfl := Option.some.inj hk
      exact j_iret rfl ⟨rfl, rfl⟩ dX8_lacks_24 hP
    · have hk := (if_neg c5).symm.trans hk
      refine j_iconst (pc' := 16) (v := (-1)) rfl rfl dX8_lacks_15 ?_
      obtain rfl := Option.some.inj hk
      exact j_iret rfl ⟨rfl, rfl⟩ dX8_lacks_16 hP
theorem LG_lacks {σ σ' : Mem} {x1 : Int32} {r : Int32} (hk : kG_lacks σ x1 = some (r, σ')) : M l D dA H0 yX8_lacks YG_lacks [vR (some (1, 0)), vI x1] (hp σ) (fun x h' => x = some (vI r) ∧ h' = hp σ') :=
  m_of (j := 0) (by decide) rfl (fun hh => by cases hh) ⟨fun _ _ => trivial, rfl⟩ (le_b rfl) (qG_lacks hk ⟨rfl, rfl⟩)
theorem qG_takenUnits_j68 {σ : Mem} {x1 : Int32} {x2 : Int32} {x4 : Int32} {x6 : Int32} {y0 : Int32} {y1 : Int32} {o3 : Option AV} {o5 : Option AV} {out : Int32 × Int32 × Mem ⊕ (Int32 × Mem)} (hk : kG_takenUnits_j68 σ x1 x2 x4 x6 y0 y1 = some out) (hc : ∀ (z3 : Int32) (z4 : Int32) (ς : Mem), out = .inl (z3, z4, ς) → ∀ (o5 o6 : Option AV), J l D dA H0 YG_takenUnits h0 Po 0 0 (hp ς) 5 [some (vR (some (1, 0))), some (vI x1), some (vI x2), some (vI z3), some (vI z4), o5, o6] []) (hx0 : ∀ (z3 : Int32) (ς : Mem), out = .inr (z3, ς) → ∀ (o0 o1 o2 o4 o5 o6 : Option AV), J l D dA H0 YG_takenUnits h0 Po 0 0 (hp ς) 111 [o0, o1, o2, some (vI z3), o4, o5, o6] []) : J l D dA H0 YG_takenUnits h0 Po 0 0 (hp σ) 68 [some (vR (some (1, 0))), some (vI x1), some (vI x2), o3, some (vI x4), o5, some (vI x6)] [vI y0, vI y1] := by
  unfold kG_takenUnits_j68 at hk
  refine j_iadd (pc' := 69) rfl dX8_takenUnits_68 ?_
  refine j_istore_n (pc' := 70) (lt_b rfl) rfl rfl dX8_takenUnits_69 ?_
  refine j_iload (pc' := 72) rfl rfl dX8_takenUnits_70 ?_
  obtain ⟨⟨r8, σ9⟩, hx, hk⟩ := of_bind hk
  refine j_cs1 (pc' := 75) (LG_isSuite hx) cs_RX8_309 ⟨le_b rfl, le_b rfl⟩ rfl (le_b rfl) ⟨rfl, rfl⟩ ⟨le_b rfl, le_b rfl⟩ rfl rfl dX8_takenUnits_72 ?_
  refine j_if_eq (pc' := 78) (tg := 105) rfl rfl dX8_takenUnits_75 (fun c15 => ?_) (fun c15 => ?_)
  · have hk := (if_pos c15).symm.trans hk
    refine j_iinc (pc' := 108) (v := x4 + 1) rfl rfl (lt_b rfl) rfl rfl dX8_takenUnits_105 ?_
    refine j_goto (tg := 5) rfl dX8_takenUnits_108 ?_
    obtain rfl := Option.some.inj hk
    exact hc _ _ _ rfl _ _
  · have hk := (if_neg c15).symm.trans hk
    refine j_iload_n (pc' := 79) rfl rfl dX8_takenUnits_78 ?_
    refine j_aload_n (pc' := 80) rfl rfl dX8_takenUnits_79 ?_
    refine j_getf (pc' := 83) fg_RX8_10 (hp_e rfl) rfl rfl dX8_takenUnits_80 ?_
    refine j_iload (pc' := 85) rfl rfl dX8_takenUnits_83 ?_
    obtain ⟨⟨r10, σ11⟩, hx, hk⟩ := of_bind hk
    refine j_cs1 (pc' := 88) (LG_placeOf hx) cs_RX8_216 ⟨le_b rfl, le_b rfl⟩ rfl (le_b rfl) ⟨rfl, rfl⟩ ⟨le_b rfl, le_b rfl⟩ rfl rfl dX8_takenUnits_85 ?_
    refine j_iconst (pc' := 89) (v := 1) rfl rfl dX8_takenUnits_88 ?_
    refine j_iadd (pc' := 90) rfl dX8_takenUnits_89 ?_
    refine j_iload_n (pc' := 91) rfl rfl dX8_takenUnits_90 ?_
    refine j_iload_n (pc' := 92) rfl rfl dX8_takenUnits_91 ?_
    obtain ⟨⟨r12, σ13⟩, hx, hk⟩ := of_bind hk
    refine j_cv1 (pc' := 95) (LH_isOpenOfKind hx) cv_RX8_306 ⟨le_b rfl, le_b rfl⟩ (hp_e rfl) rfl rfl (le_b rfl) ⟨rfl, rfl⟩ ⟨le_b rfl, le_b rfl⟩ rfl rfl dX8_takenUnits_92 ?_
    refine j_if_eq (pc' := 98) (tg := 102) rfl rfl dX8_takenUnits_95 (fun c14 => ?_) (fun c14 => ?_)
    · have hk := (if_pos c14).symm.trans hk
      refine j_iconst (pc' := 103) (v := 0) rfl rfl dX8_takenUnits_102 ?_
      refine j_iadd (pc' := 104) rfl dX8_takenUnits_103 ?_
      refine j_istore_n (pc' := 105) (lt_b rfl) rfl rfl dX8_takenUnits_104 ?_
      refine j_iinc (pc' := 108) (v := x4 + 1) rfl rfl (lt_b rfl) rfl rfl dX8_takenUnits_105 ?_
      refine j_goto (tg := 5) rfl dX8_takenUnits_108 ?_
      obtain rfl := Option.some.inj hk
      exact hc _ _ _ rfl _ _
    · have hk := (if_neg c14).symm.trans hk
      refine j_iconst (pc' := 99) (v := 1) rfl rfl dX8_takenUnits_98 ?_
      refine j_goto (tg := 103) rfl dX8_takenUnits_99 ?_
      refine j_iadd (pc' := 104) rfl dX8_takenUnits_103 ?_
      refine j_istore_n (pc' := 105) (lt_b rfl) rfl rfl dX8_takenUnits_104 ?_
      refine j_iinc (pc' := 108) (v := x4 + 1) rfl rfl (lt_b rfl) rfl rfl dX8_takenUnits_105 ?_
      refine j_goto (tg := 5) rfl dX8_takenUnits_108 ?_
      obtain rfl := Option.some.inj hk
      exact hc _ _ _ rfl _ _
theorem qG_takenUnits_j43 {σ : Mem} {x1 : Int32} {x2 : Int32} {x3 : Int32} {x4 : Int32} {y0 : Int32} {o5 : Option AV} {o6 : Option AV} {out : Int32 × Int32 × Mem ⊕ (Int32 × Mem)} (hk : kG_takenUnits_j43 σ x1 x2 x3 x4 y0 = some out) (hc : ∀ (z3 : Int32) (z4 : Int32) (ς : Mem), out = .inl (z3, z4, ς) → ∀ (o5 o6 : Option AV), J l D dA H0 YG_takenUnits h0 Po 0 0 (hp ς) 5 [some (vR (some (1, 0))), some (vI x1), some (vI x2), some (vI z3), some (vI z4), o5, o6] []) (hx0 : ∀ (z3 : Int32) (ς : Mem), out = .inr (z3, ς) → ∀ (o0 o1 o2 o4 o5 o6 : Option AV), J l D dA H0 YG_takenUnits h0 Po 0 0 (hp ς) 111 [o0, o1, o2, some (vI z3), o4, o5, o6] []) : J l D dA H0 YG_takenUnits h0 Po 0 0 (hp σ) 43 [some (vR (some (1, 0))), some (vI x1), some (vI x2), some (vI x3), some (vI x4), o5, o6] [vI y0] := by
  unfold kG_takenUnits_j43 at hk
  refine j_istore (pc' := 45) (lt_b rfl) rfl rfl dX8_takenUnits_43 ?_
  refine j_iload_n (pc' := 46) rfl rfl dX8_takenUnits_45 ?_
  refine j_aload_n (pc' := 47) rfl rfl dX8_takenUnits_46 ?_
  refine j_getf (pc' := 50) fg_RX8_10 (hp_e rfl) rfl rfl dX8_takenUnits_47 ?_
  refine j_iload (pc' := 52) rfl rfl dX8_takenUnits_50 ?_
  obtain ⟨⟨r4, σ5⟩, hx, hk⟩ := of_bind hk
  refine j_cs1 (pc' := 55) (LG_placeOf hx) cs_RX8_216 ⟨le_b rfl, le_b rfl⟩ rfl (le_b rfl) ⟨rfl, rfl⟩ ⟨le_b rfl, le_b rfl⟩ rfl rfl dX8_takenUnits_52 ?_
  refine j_iload_n (pc' := 56) rfl rfl dX8_takenUnits_55 ?_
  refine j_iload_n (pc' := 57) rfl rfl dX8_takenUnits_56 ?_
  obtain ⟨⟨r6, σ7⟩, hx, hk⟩ := of_bind hk
  refine j_cv1 (pc' := 60) (LH_isOpenOfKind hx) cv_RX8_306 ⟨le_b rfl, le_b rfl⟩ (hp_e rfl) rfl rfl (le_b rfl) ⟨rfl, rfl⟩ ⟨le_b rfl, le_b rfl⟩ rfl rfl dX8_takenUnits_57 ?_
  refine j_if_eq (pc' := 63) (tg := 67) rfl rfl dX8_takenUnits_60 (fun c16 => ?_) (fun c16 => ?_)
  · have hk := (if_pos c16).symm.trans hk
    refine j_iconst (pc' := 68) (v := 0) rfl rfl dX8_takenUnits_67 ?_
    exact qG_takenUnits_j68 hk hc hx0
  · have hk := (if_neg c16).symm.trans hk
    refine j_iconst (pc' := 64) (v := 1) rfl rfl dX8_takenUnits_63 ?_
    refine j_goto (tg := 68) rfl dX8_takenUnits_64 ?_
    exact qG_takenUnits_j68 hk hc hx0
theorem qG_takenUnits_s5 {σ : Mem} {x1 : Int32} {x2 : Int32} {x3 : Int32} {x4 : Int32} {o5 : Option AV} {o6 : Option AV} {out : (Int32 × Int32 × Mem) ⊕ (Int32 × Mem)} (hk : kG_takenUnits_s5 x1 x2 (x3, x4, σ) = some out) (hc : ∀ (z3 : Int32) (z4 : Int32) (ς : Mem), out = .inl (z3, z4, ς) → ∀ (o5 o6 : Option AV), J l D dA H0 YG_takenUnits h0 Po 0 0 (hp ς) 5 [some (vR (some (1, 0))), some (vI x1), some (vI x2), some (vI z3), some (vI z4), o5, o6] []) (hx0 : ∀ (z3 : Int32) (ς : Mem), out = .inr (z3, ς) → ∀ (o0 o1 o2 o4 o5 o6 : Option AV), J l D dA H0 YG_takenUnits h0 Po 0 0 (hp ς) 111 [o0, o1, o2, some (vI z3), o4, o5, o6] []) : J l D dA H0 YG_takenUnits h0 Po 0 0 (hp σ) 5 [some (vR (some (1, 0))), some (vI x1), some (vI x2), some (vI x3), some (vI x4), o5, o6] [] := by
  unfold kG_takenUnits_s5 at hk
  refine j_iload (pc' := 7) rfl rfl dX8_takenUnits_5 ?_
  refine j_aload_n (pc' := 8) rfl rfl dX8_takenUnits_7 ?_
  refine j_getf (pc' := 11) fg_RX8_19 (hp_e rfl) rfl rfl dX8_takenUnits_8 ?_
  refine j_getf (pc' := 14) fg_RX8_208 (hp_e rfl) rfl rfl dX8_takenUnits_11 ?_
  refine j_ic_ge (pc' := 17) (tg := 111) rfl rfl dX8_takenUnits_14 (fun c19 => ?_) (fun c19 => ?_)
  · have hk := (if_pos c19).symm.trans hk
    obtain rfl := Option.some.inj hk
    exact hx0 _ _ rfl _ _ _ _ _ _
  · have hk := (if_neg c19).symm.trans hk
    refine j_aload_n (pc' := 18) rfl rfl dX8_takenUnits_17 ?_
    refine j_getf (pc' := 21) fg_RX8_19 (hp_e rfl) rfl rfl dX8_takenUnits_18 ?_
    refine j_iload (pc' := 23) rfl rfl dX8_takenUnits_21 ?_
    obtain ⟨⟨r1, σ2⟩, hx, hk⟩ := of_bind hk
    refine j_cv1 (pc' := 26) (LB_at hx) cv_RX8_140 ⟨le_b rfl, le_b rfl⟩ (hp_e rfl) rfl rfl (le_b rfl) ⟨rfl, rfl⟩ ⟨le_b rfl, le_b rfl⟩ rfl rfl dX8_takenUnits_23 ?_
    refine j_astore (pc' := 28) (lt_b rfl) rfl rfl dX8_takenUnits_26 ?_
    refine j_aload (pc' := 30) rfl rfl dX8_takenUnits_28 ?_
    rcases of_elim hk with ⟨hr, hk⟩ | ⟨j3, hr, hk⟩
    · subst hr
      refine j_ifnonnull (pc' := 33) (tg := 37) rfl rfl dX8_takenUnits_30 (fun _ hh => by cases hh) (fun _ => ?_)
      refine j_iconst (pc' := 34) (v := (-1)) rfl rfl dX8_takenUnits_33 ?_
      refine j_goto (tg := 43) rfl dX8_takenUnits_34 ?_
      exact qG_takenUnits_j43 hk hc hx0
    · subst hr
      refine j_ifnonnull (pc' := 33) (tg := 37) rfl rfl dX8_takenUnits_30 (fun _ _ => ?_) (fun hh => by cases hh)
      refine j_aload (pc' := 39) rfl rfl dX8_takenUnits_37 ?_
      refine j_iload_n (pc' := 40) rfl rfl dX8_takenUnits_39 ?_
      obtain ⟨⟨r17, σ18⟩, hx, hk⟩ := of_bind hk
      refine j_cv1 (pc' := 43) (LQ_spotIn hx) cv_RX8_205 ⟨le_b rfl, le_b rfl⟩ (hp_e rfl) rfl rfl (le_b rfl) ⟨rfl, rfl⟩ ⟨le_b rfl, le_b rfl⟩ rfl rfl dX8_takenUnits_40 ?_
      exact qG_takenUnits_j43 hk hc hx0
theorem lG_takenUnits_s5 {x1 : Int32} {x2 : Int32} : ∀ (n : Nat) (x3 : Int32) (x4 : Int32) (σ : Mem) (e : (Int32 × Mem)), loopF n (kG_takenUnits_s5 x1 x2) (x3, x4, σ) = some e → (∀ (z3 : Int32) (ς : Mem), e = (z3, ς) → ∀ (o0 o1 o2 o4 o5 o6 : Option AV), J l D dA H0 YG_takenUnits h0 Po 0 0 (hp ς) 111 [o0, o1, o2, some (vI z3), o4, o5, o6] []) → ∀ (o5 o6 : Option AV), J l D dA H0 YG_takenUnits h0 Po 0 0 (hp σ) 5 [some (vR (some (1, 0))), some (vI x1), some (vI x2), some (vI x3), some (vI x4), o5, o6] []
  | 0, x3, x4, σ, e, he => by cases he
  | n + 1, x3, x4, σ, e, he => by
    intro hx0 o5 o6
    rcases loopF_succ he with ⟨s', h1, h2⟩ | h1
    · refine qG_takenUnits_s5 h1 ?_ ?_
      · intro z3 z4 ς ee
        cases ee
        exact lG_takenUnits_s5 n z3 z4 ς e h2 hx0
      · intro z3 ς ee
        cases ee
    · refine qG_takenUnits_s5 h1 ?_ ?_
      · intro z3 z4 ς ee
        cases ee
      · intro z3 ς ee
        exact hx0 z3 ς (Sum.inr.inj ee)
theorem qG_takenUnits_x111 {σ : Mem} {x3 : Int32} {o0 : Option AV} {o1 : Option AV} {o2 : Option AV} {o4 : Option AV} {o5 : Option AV} {o6 : Option AV} {res : Int32 × Mem} (hk : kG_takenUnits_x111 σ x3 = some res) (hP : Po (some (vI res.1)) (hp res.2)) : J l D dA H0 YG_takenUnits h0 Po 0 0 (hp σ) 111 [o0, o1, o2, some (vI x3), o4, o5, o6] [] := by
  unfold kG_takenUnits_x111 at hk
  refine j_iload_n (pc' := 112) rfl rfl dX8_takenUnits_111 ?_
  obtain rfl := Option.some.inj hk
  exact j_iret rfl ⟨rfl, rfl⟩ dX8_takenUnits_112 hP
theorem qG_takenUnits {σ : Mem} {x1 : Int32} {x2 : Int32} {o3 : Option AV} {o4 : Option AV} {o5 : Option AV} {o6 : Option AV} {res : Int32 × Mem} (hk : kG_takenUnits σ x1 x2 = some res) (hP : Po (some (vI res.1)) (hp res.2)) : J l D dA H0 YG_takenUnits h0 Po 0 0 (hp σ) 0 [some (vR (some (1, 0))), some (vI x1), some (vI x2), o3, o4, o5, o6] [] := by
  unfold kG_takenUnits at hk
  refine j_iconst (pc' := 1) (v := 0) rfl rfl dX8_takenUnits_0 ?_
  refine j_istore_n (pc' := 2) (lt_b rfl) rfl rfl dX8_takenUnits_1 ?_
  refine j_iconst (pc' := 3) (v := 0) rfl rfl dX8_takenUnits_2 ?_
  refine j_istore (pc' := 5) (lt_b rfl) rfl rfl dX8_takenUnits_3 ?_
  obtain ⟨e, he, hk⟩ := of_bind hk
  refine lG_takenUnits_s5 FU _ _ _ e he ?_ _ _
  · intro z3 ς ee _ _ _ _ _ _
    subst ee
    exact qG_takenUnits_x111 hk hP
theorem LG_takenUnits {σ σ' : Mem} {x1 : Int32} {x2 : Int32} {r : Int32} (hk : kG_takenUnits σ x1 x2 = some (r, σ')) : M l D dA H0 yX8_takenUnits YG_takenUnits [vR (some (1, 0)), vI x1, vI x2] (hp σ) (fun x h' => x = some (vI r) ∧ h' = hp σ') :=
  m_of (j := 4) (by decide) rfl (fun hh => by cases hh) ⟨fun _ _ => trivial, rfl⟩ (le_b rfl) (qG_takenUnits hk ⟨rfl, rfl⟩)
theorem qG_rooms {σ : Mem} {x1 : Int32} {x2 : Int32} {x3 : Int32} {res : Int32 × Mem} (hk : kG_rooms σ x1 x2 x3 = some res) (hP : Po (some (vI res.1)) (hp res.2)) : J l D dA H0 YG_rooms h0 Po 0 0 (hp σ) 0 [some (vR (some (1, 0))), some (vI x1), some (vI x2), some (vI x3)] [] := by
  unfold kG_rooms at hk
  refine j_iload_n (pc' := 1) rfl rfl dX8_rooms_0 ?_
  refine j_if_lt (pc' := 4) (tg := 16) rfl rfl dX8_rooms_1 (fun c11 => ?_) (fun c11 => ?_)
  · have hk := (if_pos c11).symm.trans hk
    refine j_iconst (pc' := 17) (v := (-1)) rfl rfl dX8_rooms_16 ?_
    obtain rfl := Option.some.inj hk
    exact j_iret rfl ⟨rfl, rfl⟩ dX8_rooms_17 hP
  · have hk := (if_neg c11).symm.trans hk
    refine j_iload_n (pc' := 5) rfl rfl dX8_rooms_4 ?_
    refine j_iconst (pc' := 6) (v := 4) rfl rfl dX8_rooms_5 ?_
    refine j_ic_ge (pc' := 9) (tg := 16) rfl rfl dX8_rooms_6 (fun c10 => ?_) (fun c10 => ?_)
    · have hk := (if_pos c10).symm.trans hk
      refine j_iconst (pc' := 17) (v := (-1)) rfl rfl dX8_rooms_16 ?_
      obtain rfl := Option.some.inj hk
      exact j_iret rfl ⟨rfl, rfl⟩ dX8_rooms_17 hP
    · have hk := (if_neg c10).symm.trans hk
      refine j_iload_n (pc' := 10) rfl rfl dX8_rooms_9 ?_
      obtain ⟨⟨r1, σ2⟩, hx, hk⟩ := of_bind hk
      refine j_cs1 (pc' := 13) (LG_isNight hx) cs_RX8_110 ⟨le_b rfl, le_b rfl⟩ rfl (le_b rfl) ⟨rfl, rfl⟩ ⟨le_b rfl, le_b rfl⟩ rfl rfl dX8_rooms_10 ?_
      refine j_if_ne (pc' := 16) (tg := 18) rfl rfl dX8_rooms_13 (fun c9 => ?_) (fun c9 => ?_)
      · have hk := (if_neg c9).symm.trans hk
        refine j_iload_n (pc' := 19) rfl rfl dX8_rooms_18 ?_
        by_cases cw0 : x3 = 0
        · have hk := (if_pos cw0).symm.trans hk
          refine j_look (off := 25) (tg := 44) (by decide) (by rw [cw0]; rfl) rfl dX8_rooms_19 ?_
          refine j_aload_n (pc' := 45) rfl rfl dX8_rooms_44 ?_
          refine j_getf (pc' := 48) fg_RX8_10 (hp_e rfl) rfl rfl dX8_rooms_45 ?_
          refine j_iload_n (pc' := 49) rfl rfl dX8_rooms_48 ?_
          refine j_iload_n (pc' := 50) rfl rfl dX8_rooms_49 ?_
          obtain ⟨⟨r3, σ4⟩, hx, hk⟩ := of_bind hk
          refine j_cv1 (pc' := 53) (LH_openUnits hx) cv_RX8_228 ⟨le_b rfl, le_b rfl⟩ (hp_e rfl) rfl rfl (le_b rfl) ⟨rfl, rfl⟩ ⟨le_b rfl, le_b rfl⟩ rfl rfl dX8_rooms_50 ?_
          obtain rfl := Option.some.inj hk
          exact j_iret rfl ⟨rfl, rfl⟩ dX8_rooms_53 hP
        have hk := (if_neg cw0).symm.trans hk
        by_cases cw1 : x3 = 1
        · have hk := (if_pos cw1).symm.trans hk
          refine j_look (off := 35) (tg := 54) (by decide) (by rw [cw1]; rfl) rfl dX8_rooms_19 ?_
          refine j_aload_n (pc' := 55) rfl rfl dX8_rooms_54 ?_
          refine j_iload_n (pc' := 56) rfl rfl dX8_rooms_55 ?_
          obtain ⟨⟨_, σ6⟩, hx, hk⟩ := of_bind hk
          refine j_cv0 (pc' := 59) (LG_planUpTo hx) cv_RX8_167 ⟨le_b rfl, le_b rfl⟩ (hp_e rfl) rfl rfl (le_b rfl) ⟨rfl, rfl⟩ ⟨le_b rfl, le_b rfl⟩ rfl rfl dX8_rooms_56 ?_
          refine j_aload_n (pc' := 60) rfl rfl dX8_rooms_59 ?_
          refine j_iload_n (pc' := 61) rfl rfl dX8_rooms_60 ?_
          refine j_iload_n (pc' := 62) rfl rfl dX8_rooms_61 ?_
          obtain ⟨⟨r7, σ8⟩, hx, hk⟩ := of_bind hk
          refine j_cv1 (pc' := 65) (LG_takenUnits hx) cv_RX8_231 ⟨le_b rfl, le_b rfl⟩ (hp_e rfl) rfl rfl (le_b rfl) ⟨rfl, rfl⟩ ⟨le_b rfl, le_b rfl⟩ rfl rfl dX8_rooms_62 ?_
          obtain rfl := Option.some.inj hk
          exact j_iret rfl ⟨rfl, rfl⟩ dX8_rooms_65 hP
        have hk := (if_neg cw1).symm.trans hk
        refine j_look (off := 47) (tg := 66) (by decide) (by have h0 : _ ≠ (0 : Int) := i32ne cw0; have h1 : _ ≠ (1 : Int) := i32ne cw1; simp [Op.lookupswitch.offset, Ne.symm h0, Ne.symm h1]) rfl dX8_rooms_19 ?_
        refine j_iconst (pc' := 67) (v := (-1)) rfl rfl dX8_rooms_66 ?_
        obtain rfl := Option.some.inj hk
        exact j_iret rfl ⟨rfl, rfl⟩ dX8_rooms_67 hP
      · have hk := (if_pos c9).symm.trans hk
        refine j_iconst (pc' := 17) (v := (-1)) rfl rfl dX8_rooms_16 ?_
        obtain rfl := Option.some.inj hk
        exact j_iret rfl ⟨rfl, rfl⟩ dX8_rooms_17 hP
theorem LG_rooms {σ σ' : Mem} {x1 : Int32} {x2 : Int32} {x3 : Int32} {r : Int32} (hk : kG_rooms σ x1 x2 x3 = some (r, σ')) : M l D dA H0 yX8_rooms YG_rooms [vR (some (1, 0)), vI x1, vI x2, vI x3] (hp σ) (fun x h' => x = some (vI r) ∧ h' = hp σ') :=
  m_of (j := 0) (by decide) rfl (fun hh => by cases hh) ⟨fun _ _ => trivial, rfl⟩ (le_b rfl) (qG_rooms hk ⟨rfl, rfl⟩)
theorem qG_over {σ : Mem} {x1 : Int32} {res : Int32 × Mem} (hk : kG_over σ x1 = some res) (hP : Po (some (vI res.1)) (hp res.2)) : J l D dA H0 YG_over h0 Po 0 0 (hp σ) 0 [some (vR (some (1, 0))), some (vI x1)] [] := by
  unfold kG_over at hk
  refine j_iload_n (pc' := 1) rfl rfl dX8_over_0 ?_
  refine j_if_lt (pc' := 4) (tg := 10) rfl rfl dX8_over_1 (fun c2 => ?_) (fun c2 => ?_)
  · have hk := (if_pos c2).symm.trans hk
    refine j_iconst (pc' := 11) (v := 0) rfl rfl dX8_over_10 ?_
    obtain rfl := Option.some.inj hk
    exact j_zret rfl rfl ⟨rfl, rfl⟩ dX8_over_11 hP
  · have hk := (if_neg c2).symm.trans hk
    refine j_iload_n (pc' := 5) rfl rfl dX8_over_4 ?_
    refine j_bipush (pc' := 7) (v := 40) rfl rfl dX8_over_5 ?_
    refine j_ic_le (pc' := 10) (tg := 12) rfl rfl dX8_over_7 (fun c1 => ?_) (fun c1 => ?_)
    · have hk := (if_pos c1).symm.trans hk
      refine j_aload_n (pc' := 13) rfl rfl dX8_over_12 ?_
      refine j_iload_n (pc' := 14) rfl rfl dX8_over_13 ?_
      refine j_pi (pc' := 17) (ty := .int) fg_RX8_234 ttX8 rfl rfl ⟨rfl, rfl⟩ rfl (lt_b rfl) rfl rfl dX8_over_14 ?_
      refine j_iconst (pc' := 18) (v := 1) rfl rfl dX8_over_17 ?_
      obtain rfl := Option.some.inj hk
      exact j_zret rfl rfl ⟨rfl, rfl⟩ dX8_over_18 hP
    · have hk := (if_neg c1).symm.trans hk
      refine j_iconst (pc' := 11) (v := 0) rfl rfl dX8_over_10 ?_
      obtain rfl := Option.some.inj hk
      exact j_zret rfl rfl ⟨rfl, rfl⟩ dX8_over_11 hP
theorem LG_over {σ σ' : Mem} {x1 : Int32} {r : Int32} (hk : kG_over σ x1 = some (r, σ')) : M l D dA H0 yX8_over YG_over [vR (some (1, 0)), vI x1] (hp σ) (fun x h' => x = some (vI r) ∧ h' = hp σ') :=
  m_of (j := 0) (by decide) rfl (fun hh => by cases hh) ⟨fun _ _ => trivial, rfl⟩ (le_b rfl) (qG_over hk ⟨rfl, rfl⟩)
theorem qG_price {σ : Mem} {x1 : Int32} {x2 : Int32} {x3 : Int32} {x4 : Int32} {res : Int32 × Mem} (hk : kG_price σ x1 x2 x3 x4 = some res) (hP : Po (some (vI res.1)) (hp res.2)) : J l D dA H0 YG_price h0 Po 0 0 (hp σ) 0 [some (vR (some (1, 0))), some (vI x1), some (vI x2), some (vI x3), some (vI x4)] [] := by
  unfold kG_price at hk
  refine j_iload_n (pc' := 1) rfl rfl dX8_price_0 ?_
  obtain ⟨⟨r1, σ2⟩, hx, hk⟩ := of_bind hk
  refine j_cs1 (pc' := 4) (LG_isWant hx) cs_RX8_237 ⟨le_b rfl, le_b rfl⟩ rfl (le_b rfl) ⟨rfl, rfl⟩ ⟨le_b rfl, le_b rfl⟩ rfl rfl dX8_price_1 ?_
  refine j_if_eq (pc' := 7) (tg := 27) rfl rfl dX8_price_4 (fun c10 => ?_) (fun c10 => ?_)
  · have hk := (if_pos c10).symm.trans hk
    refine j_iconst (pc' := 28) (v := 0) rfl rfl dX8_price_27 ?_
    obtain rfl := Option.some.inj hk
    exact j_zret rfl rfl ⟨rfl, rfl⟩ dX8_price_28 hP
  · have hk := (if_neg c10).symm.trans hk
    refine j_iload_n (pc' := 8) rfl rfl dX8_price_7 ?_
    refine j_iload_n (pc' := 9) rfl rfl dX8_price_8 ?_
    obtain ⟨⟨r3, σ4⟩, hx, hk⟩ := of_bind hk
    refine j_cs1 (pc' := 12) (LG_isSpan hx) cs_RX8_79 ⟨le_b rfl, le_b rfl⟩ rfl (le_b rfl) ⟨rfl, rfl⟩ ⟨le_b rfl, le_b rfl⟩ rfl rfl dX8_price_9 ?_
    refine j_if_eq (pc' := 15) (tg := 27) rfl rfl dX8_price_12 (fun c9 => ?_) (fun c9 => ?_)
    · have hk := (if_pos c9).symm.trans hk
      refine j_iconst (pc' := 28) (v := 0) rfl rfl dX8_price_27 ?_
      obtain rfl := Option.some.inj hk
      exact j_zret rfl rfl ⟨rfl, rfl⟩ dX8_price_28 hP
    · have hk := (if_neg c9).symm.trans hk
      refine j_iload (pc' := 17) rfl rfl dX8_price_15 ?_
      refine j_if_lt (pc' := 20) (tg := 27) rfl rfl dX8_price_17 (fun c8 => ?_) (fun c8 => ?_)
      · have hk := (if_pos c8).symm.trans hk
        refine j_iconst (pc' := 28) (v := 0) rfl rfl dX8_price_27 ?_
        obtain rfl := Option.some.inj hk
        exact j_zret rfl rfl ⟨rfl, rfl⟩ dX8_price_28 hP
      · have hk := (if_neg c8).symm.trans hk
        refine j_iload (pc' := 22) rfl rfl dX8_price_20 ?_
        refine j_ldc (pc' := 24) (v := 1000000) (gd_of (i := 684) (by decide +kernel) rfl) rfl dX8_price_22 ?_
        refine j_ic_le (pc' := 27) (tg := 29) rfl rfl dX8_price_24 (fun c7 => ?_) (fun c7 => ?_)
        · have hk := (if_pos c7).symm.trans hk
          refine j_aload_n (pc' := 30) rfl rfl dX8_price_29 ?_
          refine j_getf (pc' := 33) fg_RX8_44 (hp_e rfl) rfl rfl dX8_price_30 ?_
          refine j_iload_n (pc' := 34) rfl rfl dX8_price_33 ?_
          refine j_iload_n (pc' := 35) rfl rfl dX8_price_34 ?_
          refine j_iload_n (pc' := 36) rfl rfl dX8_price_35 ?_
          refine j_iload (pc' := 38) rfl rfl dX8_price_36 ?_
          obtain ⟨⟨_, σ6⟩, hx, hk⟩ := of_bind hk
          refine j_cv0 (pc' := 41) (LT_setAmount hx) cv_RX8_241 ⟨le_b rfl, le_b rfl⟩ (hp_e rfl) rfl rfl (le_b rfl) ⟨rfl, rfl⟩ ⟨le_b rfl, le_b rfl⟩ rfl rfl dX8_price_38 ?_
          refine j_iconst (pc' := 42) (v := 1) rfl rfl dX8_price_41 ?_
          obtain rfl := Option.some.inj hk
          exact j_zret rfl rfl ⟨rfl, rfl⟩ dX8_price_42 hP
        · have hk := (if_neg c7).symm.trans hk
          refine j_iconst (pc' := 28) (v := 0) rfl rfl dX8_price_27 ?_
          obtain rfl := Option.some.inj hk
          exact j_zret rfl rfl ⟨rfl, rfl⟩ dX8_price_28 hP
theorem LG_price {σ σ' : Mem} {x1 : Int32} {x2 : Int32} {x3 : Int32} {x4 : Int32} {r : Int32} (hk : kG_price σ x1 x2 x3 x4 = some (r, σ')) : M l D dA H0 yX8_price YG_price [vR (some (1, 0)), vI x1, vI x2, vI x3, vI x4] (hp σ) (fun x h' => x = some (vI r) ∧ h' = hp σ') :=
  m_of (j := 0) (by decide) rfl (fun hh => by cases hh) ⟨fun _ _ => trivial, rfl⟩ (le_b rfl) (qG_price hk ⟨rfl, rfl⟩)
theorem qG_rule {σ : Mem} {x1 : Int32} {x2 : Int32} {x3 : Int32} {res : Int32 × Mem} (hk : kG_rule σ x1 x2 x3 = some res) (hP : Po (some (vI res.1)) (hp res.2)) : J l D dA H0 YG_rule h0 Po 0 0 (hp σ) 0 [some (vR (some (1, 0))), some (vI x1), some (vI x2), some (vI x3)] [] := by
  unfold kG_rule at hk
  refine j_aload_n (pc' := 1) rfl rfl dX8_rule_0 ?_
  refine j_getf (pc' := 4) fg_RX8_44 (hp_e rfl) rfl rfl dX8_rule_1 ?_
  refine j_iload_n (pc' := 5) rfl rfl dX8_rule_4 ?_
  refine j_iload_n (pc' := 6) rfl rfl dX8_rule_5 ?_
  refine j_iload_n (pc' := 7) rfl rfl dX8_rule_6 ?_
  obtain ⟨⟨r1, σ2⟩, hx, hk⟩ := of_bind hk
  refine j_callV (pc' := 10) (LT_addRule hx) cv_RX8_244 ⟨le_b rfl, le_b rfl⟩ (hp_e rfl) rfl rfl (le_b rfl) ⟨le_b rfl, le_b rfl⟩ rfl rfl dX8_rule_7 (fun _ _ hPq => ?_)
  obtain ⟨rfl, rfl⟩ := hPq
  obtain rfl := Option.some.inj hk
  refine j_wide (k' := 1) (n' := 4) (le_b rfl) (le_b rfl) ?_
  exact j_iret rfl ⟨rfl, rfl⟩ dX8_rule_10 hP
theorem LG_rule {σ σ' : Mem} {x1 : Int32} {x2 : Int32} {x3 : Int32} {r : Int32} (hk : kG_rule σ x1 x2 x3 = some (r, σ')) : M l D dA H0 yX8_rule YG_rule [vR (some (1, 0)), vI x1, vI x2, vI x3] (hp σ) (fun x h' => x = some (vI r) ∧ h' = hp σ') :=
  m_of (j := 0) (by decide) rfl (fun hh => by cases hh) ⟨fun _ _ => trivial, rfl⟩ (le_b rfl) (qG_rule hk ⟨rfl, rfl⟩)
theorem qG_drop {σ : Mem} {x1 : Int32} {res : Int32 × Mem} (hk : kG_drop σ x1 = some res) (hP : Po (some (vI res.1)) (hp res.2)) : J l D dA H0 YG_drop h0 Po 0 0 (hp σ) 0 [some (vR (some (1, 0))), some (vI x1)] [] := by
  unfold kG_drop at hk
  refine j_aload_n (pc' := 1) rfl rfl dX8_drop_0 ?_
  refine j_getf (pc' := 4) fg_RX8_44 (hp_e rfl) rfl rfl dX8_drop_1 ?_
  refine j_iload_n (pc' := 5) rfl rfl dX8_drop_4 ?_
  obtain ⟨⟨r1, σ2⟩, hx, hk⟩ := of_bind hk
  refine j_cv1 (pc' := 8) (LT_endRule hx) cv_RX8_247 ⟨le_b rfl, le_b rfl⟩ (hp_e rfl) rfl rfl (le_b rfl) ⟨rfl, rfl⟩ ⟨le_b rfl, le_b rfl⟩ rfl rfl dX8_drop_5 ?_
  obtain ⟨g3, hk⟩ := of_ite hk
  obtain rfl := Option.some.inj hk
  exact j_zret rfl (bz_n g3) ⟨rfl, rfl⟩ dX8_drop_8 hP
theorem LG_drop {σ σ' : Mem} {x1 : Int32} {r : Int32} (hk : kG_drop σ x1 = some (r, σ')) : M l D dA H0 yX8_drop YG_drop [vR (some (1, 0)), vI x1] (hp σ) (fun x h' => x = some (vI r) ∧ h' = hp σ') :=
  m_of (j := 0) (by decide) rfl (fun hh => by cases hh) ⟨fun _ _ => trivial, rfl⟩ (le_b rfl) (qG_drop hk ⟨rfl, rfl⟩)
theorem qG_cost {σ : Mem} {x1 : Int32} {x2 : Int32} {x3 : Int32} {res : Int64 × Mem} (hk : kG_cost σ x1 x2 x3 = some res) (hP : Po (some (vL res.1)) (hp res.2)) : J l D dA H0 YG_cost h0 Po 0 0 (hp σ) 0 [some (vR (some (1, 0))), some (vI x1), some (vI x2), some (vI x3)] [] := by
  unfold kG_cost at hk
  refine j_aload_n (pc' := 1) rfl rfl dX8_cost_0 ?_
  refine j_iload_n (pc' := 2) rfl rfl dX8_cost_1 ?_
  refine j_iload_n (pc' := 3) rfl rfl dX8_cost_2 ?_
  refine j_iload_n (pc' := 4) rfl rfl dX8_cost_3 ?_
  obtain ⟨⟨r1, σ2⟩, hx, hk⟩ := of_bind hk
  refine j_cv1 (pc' := 7) (LG_isWish hx) cv_RX8_250 ⟨le_b rfl, le_b rfl⟩ (hp_e rfl) rfl rfl (le_b rfl) ⟨rfl, rfl⟩ ⟨le_b rfl, le_b rfl⟩ rfl rfl dX8_cost_4 ?_
  refine j_if_eq (pc' := 10) (tg := 27) rfl rfl dX8_cost_7 (fun c5 => ?_) (fun c5 => ?_)
  · have hk := (if_pos c5).symm.trans hk
    refine j_ldc2 (pc' := 30) (v := (-1)) (gd_of (i := 392) (by decide +kernel) rfl) rfl dX8_cost_27 ?_
    obtain rfl := Option.some.inj hk
    exact j_lret rfl ⟨rfl, rfl⟩ dX8_cost_30 hP
  · have hk := (if_neg c5).symm.trans hk
    refine j_aload_n (pc' := 11) rfl rfl dX8_cost_10 ?_
    refine j_getf (pc' := 14) fg_RX8_44 (hp_e rfl) rfl rfl dX8_cost_11 ?_
    refine j_iload_n (pc' := 15) rfl rfl dX8_cost_14 ?_
    refine j_iload_n (pc' := 16) rfl rfl dX8_cost_15 ?_
    refine j_iload_n (pc' := 17) rfl rfl dX8_cost_16 ?_
    refine j_aload_n (pc' := 18) rfl rfl dX8_cost_17 ?_
    refine j_getf (pc' := 21) fg_RX8_120 (hp_e rfl) rfl rfl dX8_cost_18 ?_
    obtain ⟨⟨r3, σ4⟩, hx, hk⟩ := of_bind hk
    refine j_cv1 (pc' := 24) (LT_costOf hx) cv_RX8_254 ⟨le_b rfl, le_b rfl⟩ (hp_e rfl) rfl rfl (le_b rfl) ⟨rfl, rfl⟩ ⟨le_b rfl, le_b rfl⟩ rfl rfl dX8_cost_21 ?_
    refine j_goto (tg := 30) rfl dX8_cost_24 ?_
    obtain rfl := Option.some.inj hk
    exact j_lret rfl ⟨rfl, rfl⟩ dX8_cost_30 hP
theorem LG_cost {σ σ' : Mem} {x1 : Int32} {x2 : Int32} {x3 : Int32} {r : Int64} (hk : kG_cost σ x1 x2 x3 = some (r, σ')) : M l D dA H0 yX8_cost YG_cost [vR (some (1, 0)), vI x1, vI x2, vI x3] (hp σ) (fun x h' => x = some (vL r) ∧ h' = hp σ') :=
  m_of (j := 0) (by decide) rfl (fun hh => by cases hh) ⟨fun _ _ => trivial, rfl⟩ (le_b rfl) (qG_cost hk ⟨rfl, rfl⟩)
theorem qG_least {σ : Mem} {x1 : Int32} {x2 : Int32} {x3 : Int32} {x4 : Int32} {res : Int64 × Mem} (hk : kG_least σ x1 x2 x3 x4 = some res) (hP : Po (some (vL res.1)) (hp res.2)) : J l D dA H0 YG_least h0 Po 0 0 (hp σ) 0 [some (vR (some (1, 0))), some (vI x1), some (vI x2), some (vI x3), some (vI x4)] [] := by
  unfold kG_least at hk
  refine j_aload_n (pc' := 1) rfl rfl dX8_least_0 ?_
  refine j_iload_n (pc' := 2) rfl rfl dX8_least_1 ?_
  refine j_iload_n (pc' := 3) rfl rfl dX8_least_2 ?_
  refine j_iload_n (pc' := 4) rfl rfl dX8_least_3 ?_
  obtain ⟨⟨r1, σ2⟩, hx, hk⟩ := of_bind hk
  refine j_cv1 (pc' := 7) (LG_isWish hx) cv_RX8_250 ⟨le_b rfl, le_b rfl⟩ (hp_e rfl) rfl rfl (le_b rfl) ⟨rfl, rfl⟩ ⟨le_b rfl, le_b rfl⟩ rfl rfl dX8_least_4 ?_
  refine j_if_ne (pc' := 10) (tg := 14) rfl rfl dX8_least_7 (fun c7 => ?_) (fun c7 => ?_)
  · have hk := (if_neg c7).symm.trans hk
    refine j_iload (pc' := 16) rfl rfl dX8_least_14 ?_
    by_cases cw0 : x4 = 0
    · have hk := (if_pos cw0).symm.trans hk
      refine j_look (off := 28) (tg := 44) (by decide) (by rw [cw0]; rfl) rfl dX8_least_16 ?_
      refine j_aload_n (pc' := 45) rfl rfl dX8_least_44 ?_
      refine j_getf (pc' := 48) fg_RX8_44 (hp_e rfl) rfl rfl dX8_least_45 ?_
      refine j_iload_n (pc' := 49) rfl rfl dX8_least_48 ?_
      refine j_iload_n (pc' := 50) rfl rfl dX8_least_49 ?_
      refine j_iload_n (pc' := 51) rfl rfl dX8_least_50 ?_
      refine j_aload_n (pc' := 52) rfl rfl dX8_least_51 ?_
      refine j_getf (pc' := 55) fg_RX8_120 (hp_e rfl) rfl rfl dX8_least_52 ?_
      obtain ⟨⟨r3, σ4⟩, hx, hk⟩ := of_bind hk
      refine j_cv1 (pc' := 58) (LT_leastCost hx) cv_RX8_128 ⟨le_b rfl, le_b rfl⟩ (hp_e rfl) rfl rfl (le_b rfl) ⟨rfl, rfl⟩ ⟨le_b rfl, le_b rfl⟩ rfl rfl dX8_least_55 ?_
      obtain rfl := Option.some.inj hk
      exact j_lret rfl ⟨rfl, rfl⟩ dX8_least_58 hP
    have hk := (if_neg cw0).symm.trans hk
    by_cases cw1 : x4 = 1
    · have hk := (if_pos cw1).symm.trans hk
      refine j_look (off := 43) (tg := 59) (by decide) (by rw [cw1]; rfl) rfl dX8_least_16 ?_
      refine j_aload_n (pc' := 60) rfl rfl dX8_least_59 ?_
      refine j_getf (pc' := 63) fg_RX8_44 (hp_e rfl) rfl rfl dX8_least_60 ?_
      refine j_iload_n (pc' := 64) rfl rfl dX8_least_63 ?_
      refine j_iload_n (pc' := 65) rfl rfl dX8_least_64 ?_
      refine j_iload_n (pc' := 66) rfl rfl dX8_least_65 ?_
      refine j_aload_n (pc' := 67) rfl rfl dX8_least_66 ?_
      refine j_getf (pc' := 70) fg_RX8_120 (hp_e rfl) rfl rfl dX8_least_67 ?_
      obtain ⟨⟨r5, σ6⟩, hx, hk⟩ := of_bind hk
      refine j_cv1 (pc' := 73) (LT_leastParts hx) cv_RX8_259 ⟨le_b rfl, le_b rfl⟩ (hp_e rfl) rfl rfl (le_b rfl) ⟨rfl, rfl⟩ ⟨le_b rfl, le_b rfl⟩ rfl rfl dX8_least_70 ?_
      refine j_i2l (pc' := 74) rfl dX8_least_73 ?_
      obtain rfl := Option.some.inj hk
      exact j_lret rfl ⟨rfl, rfl⟩ dX8_least_74 hP
    have hk := (if_neg cw1).symm.trans hk
    refine j_look (off := 59) (tg := 75) (by decide) (by have h0 : _ ≠ (0 : Int) := i32ne cw0; have h1 : _ ≠ (1 : Int) := i32ne cw1; simp [Op.lookupswitch.offset, Ne.symm h0, Ne.symm h1]) rfl dX8_least_16 ?_
    refine j_ldc2 (pc' := 78) (v := (-1)) (gd_of (i := 392) (by decide +kernel) rfl) rfl dX8_least_75 ?_
    obtain rfl := Option.some.inj hk
    exact j_lret rfl ⟨rfl, rfl⟩ dX8_least_78 hP
  · have hk := (if_pos c7).symm.trans hk
    refine j_ldc2 (pc' := 13) (v := (-1)) (gd_of (i := 392) (by decide +kernel) rfl) rfl dX8_least_10 ?_
    obtain rfl := Option.some.inj hk
    exact j_lret rfl ⟨rfl, rfl⟩ dX8_least_13 hP
theorem LG_least {σ σ' : Mem} {x1 : Int32} {x2 : Int32} {x3 : Int32} {x4 : Int32} {r : Int64} (hk : kG_least σ x1 x2 x3 x4 = some (r, σ')) : M l D dA H0 yX8_least YG_least [vR (some (1, 0)), vI x1, vI x2, vI x3, vI x4] (hp σ) (fun x h' => x = some (vL r) ∧ h' = hp σ') :=
  m_of (j := 0) (by decide) rfl (fun hh => by cases hh) ⟨fun _ _ => trivial, rfl⟩ (le_b rfl) (qG_least hk ⟨rfl, rfl⟩)
theorem qG_count {σ : Mem} {x1 : Int32} {res : Int32 × Mem} (hk : kG_count σ x1 = some res) (hP : Po (some (vI res.1)) (hp res.2)) : J l D dA H0 YG_count h0 Po 0 0 (hp σ) 0 [some (vR (some (1, 0))), some (vI x1)] [] := by
  unfold kG_count at hk
  refine j_iload_n (pc' := 1) rfl rfl dX8_count_0 ?_
  by_cases cw0 : x1 = 0
  · have hk := (if_pos cw0).symm.trans hk
    refine j_tin (off := 47) (tg := 48) cw0 (by decide) dX8_count_1 ?_
    refine j_aload_n (pc' := 49) rfl rfl dX8_count_48 ?_
    refine j_getf (pc' := 52) fg_RX8_120 (hp_e rfl) rfl rfl dX8_count_49 ?_
    obtain rfl := Option.some.inj hk
    exact j_iret rfl ⟨rfl, rfl⟩ dX8_count_52 hP
  have hk := (if_neg cw0).symm.trans hk
  by_cases cw1 : x1 = 1
  · have hk := (if_pos cw1).symm.trans hk
    refine j_tin (off := 52) (tg := 53) cw1 (by decide) dX8_count_1 ?_
    refine j_aload_n (pc' := 54) rfl rfl dX8_count_53 ?_
    refine j_getf (pc' := 57) fg_RX8_10 (hp_e rfl) rfl rfl dX8_count_54 ?_
    obtain ⟨⟨r1, σ2⟩, hx, hk⟩ := of_bind hk
    refine j_cv1 (pc' := 60) (LH_roomCount hx) cv_RX8_263 ⟨le_b rfl, le_b rfl⟩ (hp_e rfl) rfl rfl (le_b rfl) ⟨rfl, rfl⟩ ⟨le_b rfl, le_b rfl⟩ rfl rfl dX8_count_57 ?_
    obtain rfl := Option.some.inj hk
    exact j_iret rfl ⟨rfl, rfl⟩ dX8_count_60 hP
  have hk := (if_neg cw1).symm.trans hk
  by_cases cw2 : x1 = 2
  · have hk := (if_pos cw2).symm.trans hk
    refine j_tin (off := 60) (tg := 61) cw2 (by decide) dX8_count_1 ?_
    refine j_aload_n (pc' := 62) rfl rfl dX8_count_61 ?_
    refine j_getf (pc' := 65) fg_RX8_10 (hp_e rfl) rfl rfl dX8_count_62 ?_
    obtain ⟨⟨r3, σ4⟩, hx, hk⟩ := of_bind hk
    refine j_cv1 (pc' := 68) (LH_storeCount hx) cv_RX8_267 ⟨le_b rfl, le_b rfl⟩ (hp_e rfl) rfl rfl (le_b rfl) ⟨rfl, rfl⟩ ⟨le_b rfl, le_b rfl⟩ rfl rfl dX8_count_65 ?_
    obtain rfl := Option.some.inj hk
    exact j_iret rfl ⟨rfl, rfl⟩ dX8_count_68 hP
  have hk := (if_neg cw2).symm.trans hk
  by_cases cw3 : x1 = 3
  · have hk := (if_pos cw3).symm.trans hk
    refine j_tin (off := 68) (tg := 69) cw3 (by decide) dX8_count_1 ?_
    refine j_aload_n (pc' := 70) rfl rfl dX8_count_69 ?_
    refine j_getf (pc' := 73) fg_RX8_10 (hp_e rfl) rfl rfl dX8_count_70 ?_
    obtain ⟨⟨r5, σ6⟩, hx, hk⟩ := of_bind hk
    refine j_cv1 (pc' := 76) (LH_doorCount hx) cv_RX8_270 ⟨le_b rfl, le_b rfl⟩ (hp_e rfl) rfl rfl (le_b rfl) ⟨rfl, rfl⟩ ⟨le_b rfl, le_b rfl⟩ rfl rfl dX8_count_73 ?_
    obtain rfl := Option.some.inj hk
    exact j_iret rfl ⟨rfl, rfl⟩ dX8_count_76 hP
  have hk := (if_neg cw3).symm.trans hk
  by_cases cw4 : x1 = 4
  · have hk := (if_pos cw4).symm.trans hk
    refine j_tin (off := 76) (tg := 77) cw4 (by decide) dX8_count_1 ?_
    refine j_aload_n (pc' := 78) rfl rfl dX8_count_77 ?_
    refine j_getf (pc' := 81) fg_RX8_19 (hp_e rfl) rfl rfl dX8_count_78 ?_
    refine j_getf (pc' := 84) fg_RX8_208 (hp_e rfl) rfl rfl dX8_count_81 ?_
    obtain rfl := Option.some.inj hk
    exact j_iret rfl ⟨rfl, rfl⟩ dX8_count_84 hP
  have hk := (if_neg cw4).symm.trans hk
  by_cases cw5 : x1 = 5
  · have hk := (if_pos cw5).symm.trans hk
    refine j_tin (off := 84) (tg := 85) cw5 (by decide) dX8_count_1 ?_
    refine j_aload_n (pc' := 86) rfl rfl dX8_count_85 ?_
    refine j_getf (pc' := 89) fg_RX8_19 (hp_e rfl) rfl rfl dX8_count_86 ?_
    obtain ⟨⟨r7, σ8⟩, hx, hk⟩ := of_bind hk
    refine j_cv1 (pc' := 92) (LB_standingCount hx) cv_RX8_273 ⟨le_b rfl, le_b rfl⟩ (hp_e rfl) rfl rfl (le_b rfl) ⟨rfl, rfl⟩ ⟨le_b rfl, le_b rfl⟩ rfl rfl dX8_count_89 ?_
    obtain rfl := Option.some.inj hk
    exact j_iret rfl ⟨rfl, rfl⟩ dX8_count_92 hP
  have hk := (if_neg cw5).symm.trans hk
  by_cases cw6 : x1 = 6
  · have hk := (if_pos cw6).symm.trans hk
    refine j_tin (off := 92) (tg := 93) cw6 (by decide) dX8_count_1 ?_
    refine j_aload_n (pc' := 94) rfl rfl dX8_count_93 ?_
    refine j_getf (pc' := 97) fg_RX8_234 (hp_e rfl) rfl rfl dX8_count_94 ?_
    obtain rfl := Option.some.inj hk
    exact j_iret rfl ⟨rfl, rfl⟩ dX8_count_97 hP
  have hk := (if_neg cw6).symm.trans hk
  by_cases cw7 : x1 = 7
  · have hk := (if_pos cw7).symm.trans hk
    refine j_tin (off := 97) (tg := 98) cw7 (by decide) dX8_count_1 ?_
    refine j_aload_n (pc' := 99) rfl rfl dX8_count_98 ?_
    refine j_getf (pc' := 102) fg_RX8_44 (hp_e rfl) rfl rfl dX8_count_99 ?_
    obtain ⟨⟨r9, σ10⟩, hx, hk⟩ := of_bind hk
    refine j_cv1 (pc' := 105) (LT_heldRules hx) cv_RX8_276 ⟨le_b rfl, le_b rfl⟩ (hp_e rfl) rfl rfl (le_b rfl) ⟨rfl, rfl⟩ ⟨le_b rfl, le_b rfl⟩ rfl rfl dX8_count_102 ?_
    obtain rfl := Option.some.inj hk
    exact j_iret rfl ⟨rfl, rfl⟩ dX8_count_105 hP
  have hk := (if_neg cw7).symm.trans hk
  refine j_tout (tg := 106) (by have h0 : _ ≠ (0 : Int) := i32ne cw0; have h1 : _ ≠ (1 : Int) := i32ne cw1; have h2 : _ ≠ (2 : Int) := i32ne cw2; have h3 : _ ≠ (3 : Int) := i32ne cw3; have h4 : _ ≠ (4 : Int) := i32ne cw4; have h5 : _ ≠ (5 : Int) := i32ne cw5; have h6 : _ ≠ (6 : Int) := i32ne cw6; have h7 : _ ≠ (7 : Int) := i32ne cw7; omega) rfl dX8_count_1 ?_
  refine j_iconst (pc' := 107) (v := (-1)) rfl rfl dX8_count_106 ?_
  obtain rfl := Option.some.inj hk
  exact j_iret rfl ⟨rfl, rfl⟩ dX8_count_107 hP
theorem LG_count {σ σ' : Mem} {x1 : Int32} {r : Int32} (hk : kG_count σ x1 = some (r, σ')) : M l D dA H0 yX8_count YG_count [vR (some (1, 0)), vI x1] (hp σ) (fun x h' => x = some (vI r) ∧ h' = hp σ') :=
  m_of (j := 0) (by decide) rfl (fun hh => by cases hh) ⟨fun _ _ => trivial, rfl⟩ (le_b rfl) (qG_count hk ⟨rfl, rfl⟩)
theorem qM_thrown {σ : Mem} {res : Int32 × Mem} (hk : kM_thrown σ = some res) (hP : Po (some (vI res.1)) (hp res.2)) : J l D dA H0 YM_thrown h0 Po 0 0 (hp σ) 0 [some (vR (some (30, 0)))] [] := by
  unfold kM_thrown at hk
  refine j_aload_n (pc' := 1) rfl rfl dX9_thrown_0 ?_
  refine j_getf (pc' := 4) fg_RX9_1 (hp_e rfl) rfl rfl dX9_thrown_1 ?_
  obtain rfl := Option.some.inj hk
  exact j_iret rfl ⟨rfl, rfl⟩ dX9_thrown_4 hP
theorem LM_thrown {σ σ' : Mem} {r : Int32} (hk : kM_thrown σ = some (r, σ')) : M l D dA H0 yX9_thrown YM_thrown [vR (some (30, 0))] (hp σ) (fun x h' => x = some (vI r) ∧ h' = hp σ') :=
  m_of (j := 0) (by decide) rfl (fun hh => by cases hh) ⟨fun _ _ => trivial, rfl⟩ (le_b rfl) (qM_thrown hk ⟨rfl, rfl⟩)
theorem qM_less {σ : Mem} {x0 : Int32} {x1 : Int32} {res : Int32 × Mem} (hk : kM_less σ x0 x1 = some res) (hP : Po (some (vI res.1)) (hp res.2)) : J l D dA H0 YM_less h0 Po 0 0 (hp σ) 0 [some (vI x0), some (vI x1)] [] := by
  unfold kM_less at hk
  refine j_iload_n (pc' := 1) rfl rfl dX9_less_0 ?_
  refine j_iload_n (pc' := 2) rfl rfl dX9_less_1 ?_
  refine j_ic_ge (pc' := 5) (tg := 9) rfl rfl dX9_less_2 (fun c1 => ?_) (fun c1 => ?_)
  · have hk := (if_pos c1).symm.trans hk
    refine j_iload_n (pc' := 10) rfl rfl dX9_less_9 ?_
    obtain rfl := Option.some.inj hk
    exact j_iret rfl ⟨rfl, rfl⟩ dX9_less_10 hP
  · have hk := (if_neg c1).symm.trans hk
    refine j_iload_n (pc' := 6) rfl rfl dX9_less_5 ?_
    refine j_goto (tg := 10) rfl dX9_less_6 ?_
    obtain rfl := Option.some.inj hk
    exact j_iret rfl ⟨rfl, rfl⟩ dX9_less_10 hP
theorem LM_less {σ σ' : Mem} {x0 : Int32} {x1 : Int32} {r : Int32} (hk : kM_less σ x0 x1 = some (r, σ')) : M l D dA H0 yX9_less YM_less [vI x0, vI x1] (hp σ) (fun x h' => x = some (vI r) ∧ h' = hp σ') :=
  m_of (j := 0) (by decide) rfl (fun hh => by cases hh) ⟨fun _ _ => trivial, rfl⟩ (le_b rfl) (qM_less hk ⟨rfl, rfl⟩)
theorem qM_isPlace {σ : Mem} {x0 : Int32} {res : Int32 × Mem} (hk : kM_isPlace σ x0 = some res) (hP : Po (some (vI res.1)) (hp res.2)) : J l D dA H0 YM_isPlace h0 Po 0 0 (hp σ) 0 [some (vI x0)] [] := by
  unfold kM_isPlace at hk
  refine j_iload_n (pc' := 1) rfl rfl dX9_isPlace_0 ?_
  refine j_if_lt (pc' := 4) (tg := 14) rfl rfl dX9_isPlace_1 (fun c2 => ?_) (fun c2 => ?_)
  · have hk := (if_pos c2).symm.trans hk
    refine j_iconst (pc' := 15) (v := 0) rfl rfl dX9_isPlace_14 ?_
    obtain rfl := Option.some.inj hk
    exact j_zret rfl rfl ⟨rfl, rfl⟩ dX9_isPlace_15 hP
  · have hk := (if_neg c2).symm.trans hk
    refine j_iload_n (pc' := 5) rfl rfl dX9_isPlace_4 ?_
    refine j_bipush (pc' := 7) (v := 16) rfl rfl dX9_isPlace_5 ?_
    refine j_ic_ge (pc' := 10) (tg := 14) rfl rfl dX9_isPlace_7 (fun c1 => ?_) (fun c1 => ?_)
    · have hk := (if_pos c1).symm.trans hk
      refine j_iconst (pc' := 15) (v := 0) rfl rfl dX9_isPlace_14 ?_
      obtain rfl := Option.some.inj hk
      exact j_zret rfl rfl ⟨rfl, rfl⟩ dX9_isPlace_15 hP
    · have hk := (if_neg c1).symm.trans hk
      refine j_iconst (pc' := 11) (v := 1) rfl rfl dX9_isPlace_10 ?_
      refine j_goto (tg := 15) rfl dX9_isPlace_11 ?_
      obtain rfl := Option.some.inj hk
      exact j_zret rfl rfl ⟨rfl, rfl⟩ dX9_isPlace_15 hP
theorem LM_isPlace {σ σ' : Mem} {x0 : Int32} {r : Int32} (hk : kM_isPlace σ x0 = some (r, σ')) : M l D dA H0 yX9_isPlace YM_isPlace [vI x0] (hp σ) (fun x h' => x = some (vI r) ∧ h' = hp σ') :=
  m_of (j := 0) (by decide) rfl (fun hh => by cases hh) ⟨fun _ _ => trivial, rfl⟩ (le_b rfl) (qM_isPlace hk ⟨rfl, rfl⟩)
theorem qM_isRoom {σ : Mem} {x1 : Int32} {res : Int32 × Mem} (hk : kM_isRoom σ x1 = some res) (hP : Po (some (vI res.1)) (hp res.2)) : J l D dA H0 YM_isRoom h0 Po 0 0 (hp σ) 0 [some (vR (some (30, 0))), some (vI x1)] [] := by
  unfold kM_isRoom at hk
  refine j_iload_n (pc' := 1) rfl rfl dX9_isRoom_0 ?_
  obtain ⟨⟨r1, σ2⟩, hx, hk⟩ := of_bind hk
  refine j_cs1 (pc' := 4) (LM_isPlace hx) cs_RX9_103 ⟨le_b rfl, le_b rfl⟩ rfl (le_b rfl) ⟨rfl, rfl⟩ ⟨le_b rfl, le_b rfl⟩ rfl rfl dX9_isRoom_1 ?_
  refine j_if_eq (pc' := 7) (tg := 30) rfl rfl dX9_isRoom_4 (fun c7 => ?_) (fun c7 => ?_)
  · have hk := (if_pos c7).symm.trans hk
    refine j_iconst (pc' := 31) (v := 0) rfl rfl dX9_isRoom_30 ?_
    obtain rfl := Option.some.inj hk
    exact j_zret rfl rfl ⟨rfl, rfl⟩ dX9_isRoom_31 hP
  · have hk := (if_neg c7).symm.trans hk
    refine j_aload_n (pc' := 8) rfl rfl dX9_isRoom_7 ?_
    refine j_getf (pc' := 11) fg_RX9_13 (hp_e rfl) rfl rfl dX9_isRoom_8 ?_
    refine j_iload_n (pc' := 12) rfl rfl dX9_isRoom_11 ?_
    obtain ⟨g3, hk⟩ := of_ite hk
    refine j_iald (pc' := 13) (hp_e rfl) (inR_in g3) rfl dX9_isRoom_12 ?_
    refine j_if_lt (pc' := 16) (tg := 30) rfl rfl dX9_isRoom_13 (fun c6 => ?_) (fun c6 => ?_)
    · have hk := (if_pos c6).symm.trans hk
      refine j_iconst (pc' := 31) (v := 0) rfl rfl dX9_isRoom_30 ?_
      obtain rfl := Option.some.inj hk
      exact j_zret rfl rfl ⟨rfl, rfl⟩ dX9_isRoom_31 hP
    · have hk := (if_neg c6).symm.trans hk
      refine j_aload_n (pc' := 17) rfl rfl dX9_isRoom_16 ?_
      refine j_getf (pc' := 20) fg_RX9_13 (hp_e rfl) rfl rfl dX9_isRoom_17 ?_
      refine j_iload_n (pc' := 21) rfl rfl dX9_isRoom_20 ?_
      obtain ⟨g4, hk⟩ := of_ite hk
      refine j_iald (pc' := 22) (hp_e rfl) (inR_in g4) rfl dX9_isRoom_21 ?_
      refine j_iconst (pc' := 23) (v := 4) rfl rfl dX9_isRoom_22 ?_
      refine j_ic_ge (pc' := 26) (tg := 30) rfl rfl dX9_isRoom_23 (fun c5 => ?_) (fun c5 => ?_)
      · have hk := (if_pos c5).symm.trans hk
        refine j_iconst (pc' := 31) (v := 0) rfl rfl dX9_isRoom_30 ?_
        obtain rfl := Option.some.inj hk
        exact j_zret rfl rfl ⟨rfl, rfl⟩ dX9_isRoom_31 hP
      · have hk := (if_neg c5).symm.trans hk
        refine j_iconst (pc' := 27) (v := 1) rfl rfl dX9_isRoom_26 ?_
        refine j_goto (tg := 31) rfl dX9_isRoom_27 ?_
        obtain rfl := Option.some.inj hk
        exact j_zret rfl rfl ⟨rfl, rfl⟩ dX9_isRoom_31 hP
theorem LM_isRoom {σ σ' : Mem} {x1 : Int32} {r : Int32} (hk : kM_isRoom σ x1 = some (r, σ')) : M l D dA H0 yX9_isRoom YM_isRoom [vR (some (30, 0)), vI x1] (hp σ) (fun x h' => x = some (vI r) ∧ h' = hp σ') :=
  m_of (j := 0) (by decide) rfl (fun hh => by cases hh) ⟨fun _ _ => trivial, rfl⟩ (le_b rfl) (qM_isRoom hk ⟨rfl, rfl⟩)
theorem qM_isNight {σ : Mem} {x0 : Int32} {res : Int32 × Mem} (hk : kM_isNight σ x0 = some res) (hP : Po (some (vI res.1)) (hp res.2)) : J l D dA H0 YM_isNight h0 Po 0 0 (hp σ) 0 [some (vI x0)] [] := by
  unfold kM_isNight at hk
  refine j_iload_n (pc' := 1) rfl rfl dX9_isNight_0 ?_
  refine j_if_lt (pc' := 4) (tg := 14) rfl rfl dX9_isNight_1 (fun c2 => ?_) (fun c2 => ?_)
  · have hk := (if_pos c2).symm.trans hk
    refine j_iconst (pc' := 15) (v := 0) rfl rfl dX9_isNight_14 ?_
    obtain rfl := Option.some.inj hk
    exact j_zret rfl rfl ⟨rfl, rfl⟩ dX9_isNight_15 hP
  · have hk := (if_neg c2).symm.trans hk
    refine j_iload_n (pc' := 5) rfl rfl dX9_isNight_4 ?_
    refine j_bipush (pc' := 7) (v := 60) rfl rfl dX9_isNight_5 ?_
    refine j_ic_ge (pc' := 10) (tg := 14) rfl rfl dX9_isNight_7 (fun c1 => ?_) (fun c1 => ?_)
    · have hk := (if_pos c1).symm.trans hk
      refine j_iconst (pc' := 15) (v := 0) rfl rfl dX9_isNight_14 ?_
      obtain rfl := Option.some.inj hk
      exact j_zret rfl rfl ⟨rfl, rfl⟩ dX9_isNight_15 hP
    · have hk := (if_neg c1).symm.trans hk
      refine j_iconst (pc' := 11) (v := 1) rfl rfl dX9_isNight_10 ?_
      refine j_goto (tg := 15) rfl dX9_isNight_11 ?_
      obtain rfl := Option.some.inj hk
      exact j_zret rfl rfl ⟨rfl, rfl⟩ dX9_isNight_15 hP
theorem LM_isNight {σ σ' : Mem} {x0 : Int32} {r : Int32} (hk : kM_isNight σ x0 = some (r, σ')) : M l D dA H0 yX9_isNight YM_isNight [vI x0] (hp σ) (fun x h' => x = some (vI r) ∧ h' = hp σ') :=
  m_of (j := 0) (by decide) rfl (fun hh => by cases hh) ⟨fun _ _ => trivial, rfl⟩ (le_b rfl) (qM_isNight hk ⟨rfl, rfl⟩)
theorem qM_isOpen {σ : Mem} {x1 : Int32} {x2 : Int32} {res : Int32 × Mem} (hk : kM_isOpen σ x1 x2 = some res) (hP : Po (some (vI res.1)) (hp res.2)) : J l D dA H0 YM_isOpen h0 Po 0 0 (hp σ) 0 [some (vR (some (30, 0))), some (vI x1), some (vI x2)] [] := by
  unfold kM_isOpen at hk
  refine j_aload_n (pc' := 1) rfl rfl dX9_isOpen_0 ?_
  refine j_getf (pc' := 4) fg_RX9_33 (hp_e rfl) rfl rfl dX9_isOpen_1 ?_
  refine j_iload_n (pc' := 5) rfl rfl dX9_isOpen_4 ?_
  obtain ⟨g1, hk⟩ := of_ite hk
  refine j_bald (pc' := 6) (hp_e rfl) (inR_in g1) rfl dX9_isOpen_5 ?_
  refine j_if_ne (pc' := 9) (tg := 38) rfl rfl dX9_isOpen_6 (fun c6 => ?_) (fun c6 => ?_)
  · have hk := (if_neg c6).symm.trans hk
    refine j_iconst (pc' := 39) (v := 0) rfl rfl dX9_isOpen_38 ?_
    obtain rfl := Option.some.inj hk
    exact j_zret rfl rfl ⟨rfl, rfl⟩ dX9_isOpen_39 hP
  · have hk := (if_pos c6).symm.trans hk
    refine j_iload_n (pc' := 10) rfl rfl dX9_isOpen_9 ?_
    refine j_aload_n (pc' := 11) rfl rfl dX9_isOpen_10 ?_
    refine j_getf (pc' := 14) fg_RX9_26 (hp_e rfl) rfl rfl dX9_isOpen_11 ?_
    refine j_iload_n (pc' := 15) rfl rfl dX9_isOpen_14 ?_
    obtain ⟨g2, hk⟩ := of_ite hk
    refine j_iald (pc' := 16) (hp_e rfl) (inR_in g2) rfl dX9_isOpen_15 ?_
    refine j_ic_ge (pc' := 19) (tg := 38) rfl rfl dX9_isOpen_16 (fun c5 => ?_) (fun c5 => ?_)
    · have hk := (if_pos c5).symm.trans hk
      refine j_iconst (pc' := 39) (v := 0) rfl rfl dX9_isOpen_38 ?_
      obtain rfl := Option.some.inj hk
      exact j_zret rfl rfl ⟨rfl, rfl⟩ dX9_isOpen_39 hP
    · have hk := (if_neg c5).symm.trans hk
      refine j_aload_n (pc' := 20) rfl rfl dX9_isOpen_19 ?_
      refine j_getf (pc' := 23) fg_RX9_29 (hp_e rfl) rfl rfl dX9_isOpen_20 ?_
      refine j_iload_n (pc' := 24) rfl rfl dX9_isOpen_23 ?_
      obtain ⟨g3, hk⟩ := of_ite hk
      refine j_lald (pc' := 25) (hp_e rfl) (inR_in g3) rfl dX9_isOpen_24 ?_
      refine j_iload_n (pc' := 26) rfl rfl dX9_isOpen_25 ?_
      refine j_lshr (pc' := 27) rfl dX9_isOpen_26 ?_
      refine j_lconst (pc' := 28) (v := 1) rfl rfl dX9_isOpen_27 ?_
      refine j_land (pc' := 29) rfl dX9_isOpen_28 ?_
      refine j_lconst (pc' := 30) (v := 0) rfl rfl dX9_isOpen_29 ?_
      refine j_lcmp (pc' := 31) rfl dX9_isOpen_30 ?_
      refine j_if_ne (pc' := 34) (tg := 38) rfl rfl dX9_isOpen_31 (fun c4 => ?_) (fun c4 => ?_)
      · have hk := (if_neg c4).symm.trans hk
        refine j_iconst (pc' := 39) (v := 0) rfl rfl dX9_isOpen_38 ?_
        obtain rfl := Option.some.inj hk
        exact j_zret rfl rfl ⟨rfl, rfl⟩ dX9_isOpen_39 hP
      · have hk := (if_pos c4).symm.trans hk
        refine j_iconst (pc' := 35) (v := 1) rfl rfl dX9_isOpen_34 ?_
        refine j_goto (tg := 39) rfl dX9_isOpen_35 ?_
        obtain rfl := Option.some.inj hk
        exact j_zret rfl rfl ⟨rfl, rfl⟩ dX9_isOpen_39 hP
theorem LM_isOpen {σ σ' : Mem} {x1 : Int32} {x2 : Int32} {r : Int32} (hk : kM_isOpen σ x1 x2 = some (r, σ')) : M l D dA H0 yX9_isOpen YM_isOpen [vR (some (30, 0)), vI x1, vI x2] (hp σ) (fun x h' => x = some (vI r) ∧ h' = hp σ') :=
  m_of (j := 0) (by decide) rfl (fun hh => by cases hh) ⟨fun _ _ => trivial, rfl⟩ (le_b rfl) (qM_isOpen hk ⟨rfl, rfl⟩)
theorem qM_room_j111 {σ : Mem} {x1 : Int32} {x5 : Int32} {y0 : Int32} {y1 : Int32} {o2 : Option AV} {o3 : Option AV} {o4 : Option AV} {res : Int32 × Mem} (hk : kM_room_j111 σ x1 x5 y0 y1 = some res) (hP : Po (some (vI res.1)) (hp res.2)) : J l D dA H0 YM_room h0 Po 0 0 (hp σ) 111 [some (vR (some (30, 0))), some (vI x1), o2, o3, o4, some (vI x5)] [vI y0, vI y1, vR (some (33, 0))] := by
  unfold kM_room_j111 at hk
  obtain ⟨g6, hk⟩ := of_ite hk
  refine j_si (pc' := 112) (fun _ _ _ => rfl) (inR_in g6) rfl dX9_room_111 ?_
  refine j_aload_n (pc' := 113) rfl rfl dX9_room_112 ?_
  refine j_getf (pc' := 116) fg_RX9_26 (hp_e rfl) rfl rfl dX9_room_113 ?_
  refine j_iload_n (pc' := 117) rfl rfl dX9_room_116 ?_
  refine j_iload (pc' := 119) rfl rfl dX9_room_117 ?_
  obtain ⟨g7, hk⟩ := of_ite hk
  refine j_si (pc' := 120) (fun _ _ _ => rfl) (inR_in g7) rfl dX9_room_119 ?_
  refine j_iconst (pc' := 121) (v := 1) rfl rfl dX9_room_120 ?_
  obtain rfl := Option.some.inj hk
  exact j_zret rfl rfl ⟨rfl, rfl⟩ dX9_room_121 hP
theorem qM_room_j73 {σ : Mem} {x1 : Int32} {x2 : Int32} {x3 : Int32} {x4 : Int32} {x5 : Int32} {res : Int32 × Mem} (hk : kM_room_j73 σ x1 x2 x3 x4 x5 = some res) (hP : Po (some (vI res.1)) (hp res.2)) : J l D dA H0 YM_room h0 Po 0 0 (hp σ) 73 [some (vR (some (30, 0))), some (vI x1), some (vI x2), some (vI x3), some (vI x4), some (vI x5)] [] := by
  unfold kM_room_j73 at hk
  refine j_aload_n (pc' := 74) rfl rfl dX9_room_73 ?_
  refine j_getf (pc' := 77) fg_RX9_13 (hp_e rfl) rfl rfl dX9_room_74 ?_
  refine j_iload_n (pc' := 78) rfl rfl dX9_room_77 ?_
  refine j_iload_n (pc' := 79) rfl rfl dX9_room_78 ?_
  obtain ⟨g4, hk⟩ := of_ite hk
  refine j_si (pc' := 80) (fun _ _ _ => rfl) (inR_in g4) rfl dX9_room_79 ?_
  refine j_aload_n (pc' := 81) rfl rfl dX9_room_80 ?_
  refine j_getf (pc' := 84) fg_RX9_17 (hp_e rfl) rfl rfl dX9_room_81 ?_
  refine j_iload_n (pc' := 85) rfl rfl dX9_room_84 ?_
  refine j_iload_n (pc' := 86) rfl rfl dX9_room_85 ?_
  obtain ⟨g5, hk⟩ := of_ite hk
  refine j_si (pc' := 87) (fun _ _ _ => rfl) (inR_in g5) rfl dX9_room_86 ?_
  refine j_aload_n (pc' := 88) rfl rfl dX9_room_87 ?_
  refine j_getf (pc' := 91) fg_RX9_20 (hp_e rfl) rfl rfl dX9_room_88 ?_
  refine j_iload_n (pc' := 92) rfl rfl dX9_room_91 ?_
  refine j_iload_n (pc' := 93) rfl rfl dX9_room_92 ?_
  refine j_iconst (pc' := 94) (v := 3) rfl rfl dX9_room_93 ?_
  refine j_ic_ne (pc' := 97) (tg := 102) rfl rfl dX9_room_94 (fun c9 => ?_) (fun c9 => ?_)
  · have hk := (if_neg c9).symm.trans hk
    refine j_iload_n (pc' := 103) rfl rfl dX9_room_102 ?_
    refine j_if_ne (pc' := 106) (tg := 110) rfl rfl dX9_room_103 (fun c8 => ?_) (fun c8 => ?_)
    · have hk := (if_neg c8).symm.trans hk
      refine j_iconst (pc' := 111) (v := 2) rfl rfl dX9_room_110 ?_
      exact qM_room_j111 hk hP
    · have hk := (if_pos c8).symm.trans hk
      refine j_iconst (pc' := 107) (v := 1) rfl rfl dX9_room_106 ?_
      refine j_goto (tg := 111) rfl dX9_room_107 ?_
      exact qM_room_j111 hk hP
  · have hk := (if_pos c9).symm.trans hk
    refine j_iload (pc' := 99) rfl rfl dX9_room_97 ?_
    refine j_goto (tg := 111) rfl dX9_room_99 ?_
    exact qM_room_j111 hk hP
theorem qM_room {σ : Mem} {x1 : Int32} {x2 : Int32} {x3 : Int32} {x4 : Int32} {x5 : Int32} {res : Int32 × Mem} (hk : kM_room σ x1 x2 x3 x4 x5 = some res) (hP : Po (some (vI res.1)) (hp res.2)) : J l D dA H0 YM_room h0 Po 0 0 (hp σ) 0 [some (vR (some (30, 0))), some (vI x1), some (vI x2), some (vI x3), some (vI x4), some (vI x5)] [] := by
  unfold kM_room at hk
  refine j_aload_n (pc' := 1) rfl rfl dX9_room_0 ?_
  refine j_iconst (pc' := 2) (v := 0) rfl rfl dX9_room_1 ?_
  refine j_pi (pc' := 5) (ty := .int) fg_RX9_1 ttX9 rfl rfl ⟨rfl, rfl⟩ rfl (lt_b rfl) rfl rfl dX9_room_2 ?_
  refine j_iload_n (pc' := 6) rfl rfl dX9_room_5 ?_
  obtain ⟨⟨r1, σ2⟩, hx, hk⟩ := of_bind hk
  refine j_cs1 (pc' := 9) (LM_isPlace hx) cs_RX9_103 ⟨le_b rfl, le_b rfl⟩ rfl (le_b rfl) ⟨rfl, rfl⟩ ⟨le_b rfl, le_b rfl⟩ rfl rfl dX9_room_6 ?_
  refine j_if_eq (pc' := 12) (tg := 71) rfl rfl dX9_room_9 (fun c20 => ?_) (fun c20 => ?_)
  · have hk := (if_pos c20).symm.trans hk
    refine j_iconst (pc' := 72) (v := 0) rfl rfl dX9_room_71 ?_
    obtain rfl := Option.some.inj hk
    exact j_zret rfl rfl ⟨rfl, rfl⟩ dX9_room_72 hP
  · have hk := (if_neg c20).symm.trans hk
    refine j_aload_n (pc' := 13) rfl rfl dX9_room_12 ?_
    refine j_getf (pc' := 16) fg_RX9_13 (hp_e rfl) rfl rfl dX9_room_13 ?_
    refine j_iload_n (pc' := 17) rfl rfl dX9_room_16 ?_
    obtain ⟨g3, hk⟩ := of_ite hk
    refine j_iald (pc' := 18) (hp_e rfl) (inR_in g3) rfl dX9_room_17 ?_
    refine j_iconst (pc' := 19) (v := (-1)) rfl rfl dX9_room_18 ?_
    refine j_ic_ne (pc' := 22) (tg := 71) rfl rfl dX9_room_19 (fun c19 => ?_) (fun c19 => ?_)
    · have hk := (if_neg c19).symm.trans hk
      refine j_iconst (pc' := 72) (v := 0) rfl rfl dX9_room_71 ?_
      obtain rfl := Option.some.inj hk
      exact j_zret rfl rfl ⟨rfl, rfl⟩ dX9_room_72 hP
    · have hk := (if_pos c19).symm.trans hk
      refine j_iload_n (pc' := 23) rfl rfl dX9_room_22 ?_
      refine j_if_lt (pc' := 26) (tg := 71) rfl rfl dX9_room_23 (fun c18 => ?_) (fun c18 => ?_)
      · have hk := (if_pos c18).symm.trans hk
        refine j_iconst (pc' := 72) (v := 0) rfl rfl dX9_room_71 ?_
        obtain rfl := Option.some.inj hk
        exact j_zret rfl rfl ⟨rfl, rfl⟩ dX9_room_72 hP
      · have hk := (if_neg c18).symm.trans hk
        refine j_iload_n (pc' := 27) rfl rfl dX9_room_26 ?_
        refine j_iconst (pc' := 28) (v := 3) rfl rfl dX9_room_27 ?_
        refine j_ic_gt (pc' := 31) (tg := 71) rfl rfl dX9_room_28 (fun c17 => ?_) (fun c17 => ?_)
        · have hk := (if_pos c17).symm.trans hk
          refine j_iconst (pc' := 72) (v := 0) rfl rfl dX9_room_71 ?_
          obtain rfl := Option.some.inj hk
          exact j_zret rfl rfl ⟨rfl, rfl⟩ dX9_room_72 hP
        · have hk := (if_neg c17).symm.trans hk
          refine j_iload_n (pc' := 32) rfl rfl dX9_room_31 ?_
          refine j_if_lt (pc' := 35) (tg := 71) rfl rfl dX9_room_32 (fun c16 => ?_) (fun c16 => ?_)
          · have hk := (if_pos c16).symm.trans hk
            refine j_iconst (pc' := 72) (v := 0) rfl rfl dX9_room_71 ?_
            obtain rfl := Option.some.inj hk
            exact j_zret rfl rfl ⟨rfl, rfl⟩ dX9_room_72 hP
          · have hk := (if_neg c16).symm.trans hk
            refine j_iload_n (pc' := 36) rfl rfl dX9_room_35 ?_
            refine j_bipush (pc' := 38) (v := 9) rfl rfl dX9_room_36 ?_
            refine j_ic_gt (pc' := 41) (tg := 71) rfl rfl dX9_room_38 (fun c15 => ?_) (fun c15 => ?_)
            · have hk := (if_pos c15).symm.trans hk
              refine j_iconst (pc' := 72) (v := 0) rfl rfl dX9_room_71 ?_
              obtain rfl := Option.some.inj hk
              exact j_zret rfl rfl ⟨rfl, rfl⟩ dX9_room_72 hP
            · have hk := (if_neg c15).symm.trans hk
              refine j_iload (pc' := 43) rfl rfl dX9_room_41 ?_
              refine j_if_lt (pc' := 46) (tg := 71) rfl rfl dX9_room_43 (fun c14 => ?_) (fun c14 => ?_)
              · have hk := (if_pos c14).symm.trans hk
                refine j_iconst (pc' := 72) (v := 0) rfl rfl dX9_room_71 ?_
                obtain rfl := Option.some.inj hk
                exact j_zret rfl rfl ⟨rfl, rfl⟩ dX9_room_72 hP
              · have hk := (if_neg c14).symm.trans hk
                refine j_iload (pc' := 48) rfl rfl dX9_room_46 ?_
                refine j_bipush (pc' := 50) (v := 60) rfl rfl dX9_room_48 ?_
                refine j_ic_gt (pc' := 53) (tg := 71) rfl rfl dX9_room_50 (fun c13 => ?_) (fun c13 => ?_)
                · have hk := (if_pos c13).symm.trans hk
                  refine j_iconst (pc' := 72) (v := 0) rfl rfl dX9_room_71 ?_
                  obtain rfl := Option.some.inj hk
                  exact j_zret rfl rfl ⟨rfl, rfl⟩ dX9_room_72 hP
                · have hk := (if_neg c13).symm.trans hk
                  refine j_iload_n (pc' := 54) rfl rfl dX9_room_53 ?_
                  refine j_iconst (pc' := 55) (v := 3) rfl rfl dX9_room_54 ?_
                  refine j_ic_ne (pc' := 58) (tg := 73) rfl rfl dX9_room_55 (fun c12 => ?_) (fun c12 => ?_)
                  · have hk := (if_neg c12).symm.trans hk
                    exact qM_room_j73 hk hP
                  · have hk := (if_pos c12).symm.trans hk
                    refine j_iload (pc' := 60) rfl rfl dX9_room_58 ?_
                    refine j_iconst (pc' := 61) (v := 2) rfl rfl dX9_room_60 ?_
                    refine j_ic_lt (pc' := 64) (tg := 71) rfl rfl dX9_room_61 (fun c11 => ?_) (fun c11 => ?_)
                    · have hk := (if_pos c11).symm.trans hk
                      refine j_iconst (pc' := 72) (v := 0) rfl rfl dX9_room_71 ?_
                      obtain rfl := Option.some.inj hk
                      exact j_zret rfl rfl ⟨rfl, rfl⟩ dX9_room_72 hP
                    · have hk := (if_neg c11).symm.trans hk
                      refine j_iload (pc' := 66) rfl rfl dX9_room_64 ?_
                      refine j_bipush (pc' := 68) (v := 6) rfl rfl dX9_room_66 ?_
                      refine j_ic_le (pc' := 71) (tg := 73) rfl rfl dX9_room_68 (fun c10 => ?_) (fun c10 => ?_)
                      · have hk := (if_pos c10).symm.trans hk
                        exact qM_room_j73 hk hP
                      · have hk := (if_neg c10).symm.trans hk
                        refine j_iconst (pc' := 72) (v := 0) rfl rfl dX9_room_71 ?_
                        obtain rfl := Option.some.inj hk
                        exact j_zret rfl rfl ⟨rfl, rfl⟩ dX9_room_72 hP
theorem LM_room {σ σ' : Mem} {x1 : Int32} {x2 : Int32} {x3 : Int32} {x4 : Int32} {x5 : Int32} {r : Int32} (hk : kM_room σ x1 x2 x3 x4 x5 = some (r, σ')) : M l D dA H0 yX9_room YM_room [vR (some (30, 0)), vI x1, vI x2, vI x3, vI x4, vI x5] (hp σ) (fun x h' => x = some (vI r) ∧ h' = hp σ') :=
  m_of (j := 0) (by decide) rfl (fun hh => by cases hh) ⟨fun _ _ => trivial, rfl⟩ (le_b rfl) (qM_room hk ⟨rfl, rfl⟩)
theorem qM_store {σ : Mem} {x1 : Int32} {res : Int32 × Mem} (hk : kM_store σ x1 = some res) (hP : Po (some (vI res.1)) (hp res.2)) : J l D dA H0 YM_store h0 Po 0 0 (hp σ) 0 [some (vR (some (30, 0))), some (vI x1)] [] := by
  unfold kM_store at hk
  refine j_aload_n (pc' := 1) rfl rfl dX9_store_0 ?_
  refine j_iconst (pc' := 2) (v := 0) rfl rfl dX9_store_1 ?_
  refine j_pi (pc' := 5) (ty := .int) fg_RX9_1 ttX9 rfl rfl ⟨rfl, rfl⟩ rfl (lt_b rfl) rfl rfl dX9_store_2 ?_
  refine j_iload_n (pc' := 6) rfl rfl dX9_store_5 ?_
  obtain ⟨⟨r1, σ2⟩, hx, hk⟩ := of_bind hk
  refine j_cs1 (pc' := 9) (LM_isPlace hx) cs_RX9_103 ⟨le_b rfl, le_b rfl⟩ rfl (le_b rfl) ⟨rfl, rfl⟩ ⟨le_b rfl, le_b rfl⟩ rfl rfl dX9_store_6 ?_
  refine j_if_eq (pc' := 12) (tg := 22) rfl rfl dX9_store_9 (fun c6 => ?_) (fun c6 => ?_)
  · have hk := (if_pos c6).symm.trans hk
    refine j_iconst (pc' := 23) (v := 0) rfl rfl dX9_store_22 ?_
    obtain rfl := Option.some.inj hk
    exact j_zret rfl rfl ⟨rfl, rfl⟩ dX9_store_23 hP
  · have hk := (if_neg c6).symm.trans hk
    refine j_aload_n (pc' := 13) rfl rfl dX9_store_12 ?_
    refine j_getf (pc' := 16) fg_RX9_13 (hp_e rfl) rfl rfl dX9_store_13 ?_
    refine j_iload_n (pc' := 17) rfl rfl dX9_store_16 ?_
    obtain ⟨g3, hk⟩ := of_ite hk
    refine j_iald (pc' := 18) (hp_e rfl) (inR_in g3) rfl dX9_store_17 ?_
    refine j_iconst (pc' := 19) (v := (-1)) rfl rfl dX9_store_18 ?_
    refine j_ic_eq (pc' := 22) (tg := 24) rfl rfl dX9_store_19 (fun c5 => ?_) (fun c5 => ?_)
    · have hk := (if_pos c5).symm.trans hk
      refine j_aload_n (pc' := 25) rfl rfl dX9_store_24 ?_
      refine j_getf (pc' := 28) fg_RX9_13 (hp_e rfl) rfl rfl dX9_store_25 ?_
      refine j_iload_n (pc' := 29) rfl rfl dX9_store_28 ?_
      refine j_iconst (pc' := 30) (v := 4) rfl rfl dX9_store_29 ?_
      obtain ⟨g4, hk⟩ := of_ite hk
      refine j_si (pc' := 31) (fun _ _ _ => rfl) (inR_in g4) rfl dX9_store_30 ?_
      refine j_iconst (pc' := 32) (v := 1) rfl rfl dX9_store_31 ?_
      obtain rfl := Option.some.inj hk
      exact j_zret rfl rfl ⟨rfl, rfl⟩ dX9_store_32 hP
    · have hk := (if_neg c5).symm.trans hk
      refine j_iconst (pc' := 23) (v := 0) rfl rfl dX9_store_22 ?_
      obtain rfl := Option.some.inj hk
      exact j_zret rfl rfl ⟨rfl, rfl⟩ dX9_store_23 hP
theorem LM_store {σ σ' : Mem} {x1 : Int32} {r : Int32} (hk : kM_store σ x1 = some (r, σ')) : M l D dA H0 yX9_store YM_store [vR (some (30, 0)), vI x1] (hp σ) (fun x h' => x = some (vI r) ∧ h' = hp σ') :=
  m_of (j := 0) (by decide) rfl (fun hh => by cases hh) ⟨fun _ _ => trivial, rfl⟩ (le_b rfl) (qM_store hk ⟨rfl, rfl⟩)
theorem qM_door {σ : Mem} {x1 : Int32} {res : Int32 × Mem} (hk : kM_door σ x1 = some res) (hP : Po (some (vI res.1)) (hp res.2)) : J l D dA H0 YM_door h0 Po 0 0 (hp σ) 0 [some (vR (some (30, 0))), some (vI x1)] [] := by
  unfold kM_door at hk
  refine j_aload_n (pc' := 1) rfl rfl dX9_door_0 ?_
  refine j_iconst (pc' := 2) (v := 0) rfl rfl dX9_door_1 ?_
  refine j_pi (pc' := 5) (ty := .int) fg_RX9_1 ttX9 rfl rfl ⟨rfl, rfl⟩ rfl (lt_b rfl) rfl rfl dX9_door_2 ?_
  refine j_iload_n (pc' := 6) rfl rfl dX9_door_5 ?_
  obtain ⟨⟨r1, σ2⟩, hx, hk⟩ := of_bind hk
  refine j_cs1 (pc' := 9) (LM_isPlace hx) cs_RX9_103 ⟨le_b rfl, le_b rfl⟩ rfl (le_b rfl) ⟨rfl, rfl⟩ ⟨le_b rfl, le_b rfl⟩ rfl rfl dX9_door_6 ?_
  refine j_if_eq (pc' := 12) (tg := 82) rfl rfl dX9_door_9 (fun c19 => ?_) (fun c19 => ?_)
  · have hk := (if_pos c19).symm.trans hk
    refine j_iconst (pc' := 83) (v := 0) rfl rfl dX9_door_82 ?_
    obtain rfl := Option.some.inj hk
    exact j_zret rfl rfl ⟨rfl, rfl⟩ dX9_door_83 hP
  · have hk := (if_neg c19).symm.trans hk
    refine j_iload_n (pc' := 13) rfl rfl dX9_door_12 ?_
    refine j_iconst (pc' := 14) (v := 1) rfl rfl dX9_door_13 ?_
    refine j_iadd (pc' := 15) rfl dX9_door_14 ?_
    obtain ⟨⟨r3, σ4⟩, hx, hk⟩ := of_bind hk
    refine j_cs1 (pc' := 18) (LM_isPlace hx) cs_RX9_103 ⟨le_b rfl, le_b rfl⟩ rfl (le_b rfl) ⟨rfl, rfl⟩ ⟨le_b rfl, le_b rfl⟩ rfl rfl dX9_door_15 ?_
    refine j_if_eq (pc' := 21) (tg := 82) rfl rfl dX9_door_18 (fun c18 => ?_) (fun c18 => ?_)
    · have hk := (if_pos c18).symm.trans hk
      refine j_iconst (pc' := 83) (v := 0) rfl rfl dX9_door_82 ?_
      obtain rfl := Option.some.inj hk
      exact j_zret rfl rfl ⟨rfl, rfl⟩ dX9_door_83 hP
    · have hk := (if_neg c18).symm.trans hk
      refine j_aload_n (pc' := 22) rfl rfl dX9_door_21 ?_
      refine j_getf (pc' := 25) fg_RX9_13 (hp_e rfl) rfl rfl dX9_door_22 ?_
      refine j_iload_n (pc' := 26) rfl rfl dX9_door_25 ?_
      obtain ⟨g5, hk⟩ := of_ite hk
      refine j_iald (pc' := 27) (hp_e rfl) (inR_in g5) rfl dX9_door_26 ?_
      refine j_iconst (pc' := 28) (v := 1) rfl rfl dX9_door_27 ?_
      refine j_ic_ne (pc' := 31) (tg := 82) rfl rfl dX9_door_28 (fun c17 => ?_) (fun c17 => ?_)
      · have hk := (if_neg c17).symm.trans hk
        refine j_iconst (pc' := 83) (v := 0) rfl rfl dX9_door_82 ?_
        obtain rfl := Option.some.inj hk
        exact j_zret rfl rfl ⟨rfl, rfl⟩ dX9_door_83 hP
      · have hk := (if_pos c17).symm.trans hk
        refine j_aload_n (pc' := 32) rfl rfl dX9_door_31 ?_
        refine j_getf (pc' := 35) fg_RX9_13 (hp_e rfl) rfl rfl dX9_door_32 ?_
        refine j_iload_n (pc' := 36) rfl rfl dX9_door_35 ?_
        refine j_iconst (pc' := 37) (v := 1) rfl rfl dX9_door_36 ?_
        refine j_iadd (pc' := 38) rfl dX9_door_37 ?_
        obtain ⟨g6, hk⟩ := of_ite hk
        refine j_iald (pc' := 39) (hp_e rfl) (inR_in g6) rfl dX9_door_38 ?_
        refine j_iconst (pc' := 40) (v := 1) rfl rfl dX9_door_39 ?_
        refine j_ic_ne (pc' := 43) (tg := 82) rfl rfl dX9_door_40 (fun c16 => ?_) (fun c16 => ?_)
        · have hk := (if_neg c16).symm.trans hk
          refine j_iconst (pc' := 83) (v := 0) rfl rfl dX9_door_82 ?_
          obtain rfl := Option.some.inj hk
          exact j_zret rfl rfl ⟨rfl, rfl⟩ dX9_door_83 hP
        · have hk := (if_pos c16).symm.trans hk
          refine j_aload_n (pc' := 44) rfl rfl dX9_door_43 ?_
          refine j_getf (pc' := 47) fg_RX9_17 (hp_e rfl) rfl rfl dX9_door_44 ?_
          refine j_iload_n (pc' := 48) rfl rfl dX9_door_47 ?_
          obtain ⟨g7, hk⟩ := of_ite hk
          refine j_iald (pc' := 49) (hp_e rfl) (inR_in g7) rfl dX9_door_48 ?_
          refine j_aload_n (pc' := 50) rfl rfl dX9_door_49 ?_
          refine j_getf (pc' := 53) fg_RX9_17 (hp_e rfl) rfl rfl dX9_door_50 ?_
          refine j_iload_n (pc' := 54) rfl rfl dX9_door_53 ?_
          refine j_iconst (pc' := 55) (v := 1) rfl rfl dX9_door_54 ?_
          refine j_iadd (pc' := 56) rfl dX9_door_55 ?_
          obtain ⟨g8, hk⟩ := of_ite hk
          refine j_iald (pc' := 57) (hp_e rfl) (inR_in g8) rfl dX9_door_56 ?_
          refine j_ic_ne (pc' := 60) (tg := 82) rfl rfl dX9_door_57 (fun c15 => ?_) (fun c15 => ?_)
          · have hk := (if_neg c15).symm.trans hk
            refine j_iconst (pc' := 83) (v := 0) rfl rfl dX9_door_82 ?_
            obtain rfl := Option.some.inj hk
            exact j_zret rfl rfl ⟨rfl, rfl⟩ dX9_door_83 hP
          · have hk := (if_pos c15).symm.trans hk
            refine j_aload_n (pc' := 61) rfl rfl dX9_door_60 ?_
            refine j_getf (pc' := 64) fg_RX9_23 (hp_e rfl) rfl rfl dX9_door_61 ?_
            refine j_iload_n (pc' := 65) rfl rfl dX9_door_64 ?_
            obtain ⟨g9, hk⟩ := of_ite hk
            refine j_iald (pc' := 66) (hp_e rfl) (inR_in g9) rfl dX9_door_65 ?_
            refine j_iconst (pc' := 67) (v := (-1)) rfl rfl dX9_door_66 ?_
            refine j_ic_ne (pc' := 70) (tg := 82) rfl rfl dX9_door_67 (fun c14 => ?_) (fun c14 => ?_)
            · have hk := (if_neg c14).symm.trans hk
              refine j_iconst (pc' := 83) (v := 0) rfl rfl dX9_door_82 ?_
              obtain rfl := Option.some.inj hk
              exact j_zret rfl rfl ⟨rfl, rfl⟩ dX9_door_83 hP
            · have hk := (if_pos c14).symm.trans hk
              refine j_aload_n (pc' := 71) rfl rfl dX9_door_70 ?_
              refine j_getf (pc' := 74) fg_RX9_23 (hp_e rfl) rfl rfl dX9_door_71 ?_
              refine j_iload_n (pc' := 75) rfl rfl dX9_door_74 ?_
              refine j_iconst (pc' := 76) (v := 1) rfl rfl dX9_door_75 ?_
              refine j_iadd (pc' := 77) rfl dX9_door_76 ?_
              obtain ⟨g10, hk⟩ := of_ite hk
              refine j_iald (pc' := 78) (hp_e rfl) (inR_in g10) rfl dX9_door_77 ?_
              refine j_iconst (pc' := 79) (v := (-1)) rfl rfl dX9_door_78 ?_
              refine j_ic_eq (pc' := 82) (tg := 84) rfl rfl dX9_door_79 (fun c13 => ?_) (fun c13 => ?_)
              · have hk := (if_pos c13).symm.trans hk
                refine j_aload_n (pc' := 85) rfl rfl dX9_door_84 ?_
                refine j_getf (pc' := 88) fg_RX9_23 (hp_e rfl) rfl rfl dX9_door_85 ?_
                refine j_iload_n (pc' := 89) rfl rfl dX9_door_88 ?_
                refine j_iload_n (pc' := 90) rfl rfl dX9_door_89 ?_
                refine j_iconst (pc' := 91) (v := 1) rfl rfl dX9_door_90 ?_
                refine j_iadd (pc' := 92) rfl dX9_door_91 ?_
                obtain ⟨g11, hk⟩ := of_ite hk
                refine j_si (pc' := 93) (fun _ _ _ => rfl) (inR_in g11) rfl dX9_door_92 ?_
                refine j_aload_n (pc' := 94) rfl rfl dX9_door_93 ?_
                refine j_getf (pc' := 97) fg_RX9_23 (hp_e rfl) rfl rfl dX9_door_94 ?_
                refine j_iload_n (pc' := 98) rfl rfl dX9_door_97 ?_
                refine j_iconst (pc' := 99) (v := 1) rfl rfl dX9_door_98 ?_
                refine j_iadd (pc' := 100) rfl dX9_door_99 ?_
                refine j_iload_n (pc' := 101) rfl rfl dX9_door_100 ?_
                obtain ⟨g12, hk⟩ := of_ite hk
                refine j_si (pc' := 102) (fun _ _ _ => rfl) (inR_in g12) rfl dX9_door_101 ?_
                refine j_iconst (pc' := 103) (v := 1) rfl rfl dX9_door_102 ?_
                obtain rfl := Option.some.inj hk
                exact j_zret rfl rfl ⟨rfl, rfl⟩ dX9_door_103 hP
              · have hk := (if_neg c13).symm.trans hk
                refine j_iconst (pc' := 83) (v := 0) rfl rfl dX9_door_82 ?_
                obtain rfl := Option.some.inj hk
                exact j_zret rfl rfl ⟨rfl, rfl⟩ dX9_door_83 hP
theorem LM_door {σ σ' : Mem} {x1 : Int32} {r : Int32} (hk : kM_door σ x1 = some (r, σ')) : M l D dA H0 yX9_door YM_door [vR (some (30, 0)), vI x1] (hp σ) (fun x h' => x = some (vI r) ∧ h' = hp σ') :=
  m_of (j := 0) (by decide) rfl (fun hh => by cases hh) ⟨fun _ _ => trivial, rfl⟩ (le_b rfl) (qM_door hk ⟨rfl, rfl⟩)
theorem qM_isSpan {σ : Mem} {x0 : Int32} {x1 : Int32} {res : Int32 × Mem} (hk : kM_isSpan σ x0 x1 = some res) (hP : Po (some (vI res.1)) (hp res.2)) : J l D dA H0 YM_isSpan h0 Po 0 0 (hp σ) 0 [some (vI x0), some (vI x1)] [] := by
  unfold kM_isSpan at hk
  refine j_iload_n (pc' := 1) rfl rfl dX9_isSpan_0 ?_
  refine j_if_lt (pc' := 4) (tg := 19) rfl rfl dX9_isSpan_1 (fun c3 => ?_) (fun c3 => ?_)
  · have hk := (if_pos c3).symm.trans hk
    refine j_iconst (pc' := 20) (v := 0) rfl rfl dX9_isSpan_19 ?_
    obtain rfl := Option.some.inj hk
    exact j_zret rfl rfl ⟨rfl, rfl⟩ dX9_isSpan_20 hP
  · have hk := (if_neg c3).symm.trans hk
    refine j_iload_n (pc' := 5) rfl rfl dX9_isSpan_4 ?_
    refine j_iload_n (pc' := 6) rfl rfl dX9_isSpan_5 ?_
    refine j_ic_gt (pc' := 9) (tg := 19) rfl rfl dX9_isSpan_6 (fun c2 => ?_) (fun c2 => ?_)
    · have hk := (if_pos c2).symm.trans hk
      refine j_iconst (pc' := 20) (v := 0) rfl rfl dX9_isSpan_19 ?_
      obtain rfl := Option.some.inj hk
      exact j_zret rfl rfl ⟨rfl, rfl⟩ dX9_isSpan_20 hP
    · have hk := (if_neg c2).symm.trans hk
      refine j_iload_n (pc' := 10) rfl rfl dX9_isSpan_9 ?_
      refine j_bipush (pc' := 12) (v := 60) rfl rfl dX9_isSpan_10 ?_
      refine j_ic_gt (pc' := 15) (tg := 19) rfl rfl dX9_isSpan_12 (fun c1 => ?_) (fun c1 => ?_)
      · have hk := (if_pos c1).symm.trans hk
        refine j_iconst (pc' := 20) (v := 0) rfl rfl dX9_isSpan_19 ?_
        obtain rfl := Option.some.inj hk
        exact j_zret rfl rfl ⟨rfl, rfl⟩ dX9_isSpan_20 hP
      · have hk := (if_neg c1).symm.trans hk
        refine j_iconst (pc' := 16) (v := 1) rfl rfl dX9_isSpan_15 ?_
        refine j_goto (tg := 20) rfl dX9_isSpan_16 ?_
        obtain rfl := Option.some.inj hk
        exact j_zret rfl rfl ⟨rfl, rfl⟩ dX9_isSpan_20 hP
theorem LM_isSpan {σ σ' : Mem} {x0 : Int32} {x1 : Int32} {r : Int32} (hk : kM_isSpan σ x0 x1 = some (r, σ')) : M l D dA H0 yX9_isSpan YM_isSpan [vI x0, vI x1] (hp σ) (fun x h' => x = some (vI r) ∧ h' = hp σ') :=
  m_of (j := 0) (by decide) rfl (fun hh => by cases hh) ⟨fun _ _ => trivial, rfl⟩ (le_b rfl) (qM_isSpan hk ⟨rfl, rfl⟩)
theorem qM_shut_j76 {σ : Mem} {x1 : Int32} {x3 : Int32} {x4 : Int32} {x5 : Int32} {x6 : Int32} {y0 : Int32} {o2 : Option AV} {o7 : Option AV} {out : Int32 × Int32 × Mem ⊕ (Int32 × Mem)} (hk : kM_shut_j76 σ x1 x3 x4 x5 x6 y0 = some out) (hc : ∀ (z5 : Int32) (z6 : Int32) (ς : Mem), out = .inl (z5, z6, ς) → ∀ (o2 o7 : Option AV), J l D dA H0 YM_shut h0 Po 0 0 (hp ς) 38 [some (vR (some (30, 0))), some (vI x1), o2, some (vI x3), some (vI x4), some (vI z5), some (vI z6), o7] []) (hx0 : ∀ (z5 : Int32) (ς : Mem), out = .inr (z5, ς) → ∀ (o0 o1 o2 o3 o4 o6 o7 : Option AV), J l D dA H0 YM_shut h0 Po 0 0 (hp ς) 110 [o0, o1, o2, o3, o4, some (vI z5), o6, o7] []) : J l D dA H0 YM_shut h0 Po 0 0 (hp σ) 76 [some (vR (some (30, 0))), some (vI x1), o2, some (vI x3), some (vI x4), some (vI x5), some (vI x6), o7] [vI y0] := by
  unfold kM_shut_j76 at hk
  refine j_istore (pc' := 78) (lt_b rfl) rfl rfl dX9_shut_76 ?_
  refine j_iload (pc' := 80) rfl rfl dX9_shut_78 ?_
  refine j_iload (pc' := 82) rfl rfl dX9_shut_80 ?_
  refine j_ic_ne (pc' := 85) (tg := 88) rfl rfl dX9_shut_82 (fun c10 => ?_) (fun c10 => ?_)
  · have hk := (if_neg c10).symm.trans hk
    refine j_iinc (pc' := 91) (v := x5 + 1) rfl rfl (lt_b rfl) rfl rfl dX9_shut_88 ?_
    refine j_aload_n (pc' := 92) rfl rfl dX9_shut_91 ?_
    refine j_getf (pc' := 95) fg_RX9_29 (hp_e rfl) rfl rfl dX9_shut_92 ?_
    refine j_iload_n (pc' := 96) rfl rfl dX9_shut_95 ?_
    refine j_dup2 (pc' := 97) rfl rfl rfl dX9_shut_96 ?_
    obtain ⟨g8, hk⟩ := of_ite hk
    refine j_lald (pc' := 98) (hp_e rfl) (inR_in g8) rfl dX9_shut_97 ?_
    refine j_lconst (pc' := 99) (v := 1) rfl rfl dX9_shut_98 ?_
    refine j_iload (pc' := 101) rfl rfl dX9_shut_99 ?_
    refine j_lshl (pc' := 102) rfl dX9_shut_101 ?_
    refine j_lxor (pc' := 103) rfl dX9_shut_102 ?_
    obtain ⟨g9, hk⟩ := of_ite hk
    refine j_sl (pc' := 104) (fun _ _ _ => rfl) (inR_in g9) rfl dX9_shut_103 ?_
    refine j_iinc (pc' := 107) (v := x6 + 1) rfl rfl (lt_b rfl) rfl rfl dX9_shut_104 ?_
    refine j_goto (tg := 38) rfl dX9_shut_107 ?_
    obtain rfl := Option.some.inj hk
    exact hc _ _ _ rfl _ _
  · have hk := (if_pos c10).symm.trans hk
    refine j_goto (tg := 104) rfl dX9_shut_85 ?_
    refine j_iinc (pc' := 107) (v := x6 + 1) rfl rfl (lt_b rfl) rfl rfl dX9_shut_104 ?_
    refine j_goto (tg := 38) rfl dX9_shut_107 ?_
    obtain rfl := Option.some.inj hk
    exact hc _ _ _ rfl _ _
theorem qM_shut_s38 {σ : Mem} {x1 : Int32} {x3 : Int32} {x4 : Int32} {x5 : Int32} {x6 : Int32} {o2 : Option AV} {o7 : Option AV} {out : (Int32 × Int32 × Mem) ⊕ (Int32 × Mem)} (hk : kM_shut_s38 x1 x3 x4 (x5, x6, σ) = some out) (hc : ∀ (z5 : Int32) (z6 : Int32) (ς : Mem), out = .inl (z5, z6, ς) → ∀ (o2 o7 : Option AV), J l D dA H0 YM_shut h0 Po 0 0 (hp ς) 38 [some (vR (some (30, 0))), some (vI x1), o2, some (vI x3), some (vI x4), some (vI z5), some (vI z6), o7] []) (hx0 : ∀ (z5 : Int32) (ς : Mem), out = .inr (z5, ς) → ∀ (o0 o1 o2 o3 o4 o6 o7 : Option AV), J l D dA H0 YM_shut h0 Po 0 0 (hp ς) 110 [o0, o1, o2, o3, o4, some (vI z5), o6, o7] []) : J l D dA H0 YM_shut h0 Po 0 0 (hp σ) 38 [some (vR (some (30, 0))), some (vI x1), o2, some (vI x3), some (vI x4), some (vI x5), some (vI x6), o7] [] := by
  unfold kM_shut_s38 at hk
  refine j_iload (pc' := 40) rfl rfl dX9_shut_38 ?_
  refine j_iload_n (pc' := 41) rfl rfl dX9_shut_40 ?_
  refine j_ic_ge (pc' := 44) (tg := 110) rfl rfl dX9_shut_41 (fun c13 => ?_) (fun c13 => ?_)
  · have hk := (if_pos c13).symm.trans hk
    obtain rfl := Option.some.inj hk
    exact hx0 _ _ rfl _ _ _ _ _ _ _
  · have hk := (if_neg c13).symm.trans hk
    refine j_iload (pc' := 46) rfl rfl dX9_shut_44 ?_
    refine j_aload_n (pc' := 47) rfl rfl dX9_shut_46 ?_
    refine j_getf (pc' := 50) fg_RX9_26 (hp_e rfl) rfl rfl dX9_shut_47 ?_
    refine j_iload_n (pc' := 51) rfl rfl dX9_shut_50 ?_
    obtain ⟨g6, hk⟩ := of_ite hk
    refine j_iald (pc' := 52) (hp_e rfl) (inR_in g6) rfl dX9_shut_51 ?_
    refine j_ic_ge (pc' := 55) (tg := 110) rfl rfl dX9_shut_52 (fun c12 => ?_) (fun c12 => ?_)
    · have hk := (if_pos c12).symm.trans hk
      obtain rfl := Option.some.inj hk
      exact hx0 _ _ rfl _ _ _ _ _ _ _
    · have hk := (if_neg c12).symm.trans hk
      refine j_aload_n (pc' := 56) rfl rfl dX9_shut_55 ?_
      refine j_getf (pc' := 59) fg_RX9_29 (hp_e rfl) rfl rfl dX9_shut_56 ?_
      refine j_iload_n (pc' := 60) rfl rfl dX9_shut_59 ?_
      obtain ⟨g7, hk⟩ := of_ite hk
      refine j_lald (pc' := 61) (hp_e rfl) (inR_in g7) rfl dX9_shut_60 ?_
      refine j_iload (pc' := 63) rfl rfl dX9_shut_61 ?_
      refine j_lshr (pc' := 64) rfl dX9_shut_63 ?_
      refine j_lconst (pc' := 65) (v := 1) rfl rfl dX9_shut_64 ?_
      refine j_land (pc' := 66) rfl dX9_shut_65 ?_
      refine j_lconst (pc' := 67) (v := 1) rfl rfl dX9_shut_66 ?_
      refine j_lcmp (pc' := 68) rfl dX9_shut_67 ?_
      refine j_if_ne (pc' := 71) (tg := 75) rfl rfl dX9_shut_68 (fun c11 => ?_) (fun c11 => ?_)
      · have hk := (if_neg c11).symm.trans hk
        refine j_iconst (pc' := 76) (v := 0) rfl rfl dX9_shut_75 ?_
        exact qM_shut_j76 hk hc hx0
      · have hk := (if_pos c11).symm.trans hk
        refine j_iconst (pc' := 72) (v := 1) rfl rfl dX9_shut_71 ?_
        refine j_goto (tg := 76) rfl dX9_shut_72 ?_
        exact qM_shut_j76 hk hc hx0
theorem lM_shut_s38 {x1 : Int32} {x3 : Int32} {x4 : Int32} : ∀ (n : Nat) (x5 : Int32) (x6 : Int32) (σ : Mem) (e : (Int32 × Mem)), loopF n (kM_shut_s38 x1 x3 x4) (x5, x6, σ) = some e → (∀ (z5 : Int32) (ς : Mem), e = (z5, ς) → ∀ (o0 o1 o2 o3 o4 o6 o7 : Option AV), J l D dA H0 YM_shut h0 Po 0 0 (hp ς) 110 [o0, o1, o2, o3, o4, some (vI z5), o6, o7] []) → ∀ (o2 o7 : Option AV), J l D dA H0 YM_shut h0 Po 0 0 (hp σ) 38 [some (vR (some (30, 0))), some (vI x1), o2, some (vI x3), some (vI x4), some (vI x5), some (vI x6), o7] []
  | 0, x5, x6, σ, e, he => by cases he
  | n + 1, x5, x6, σ, e, he => by
    intro hx0 o2 o7
    rcases loopF_succ he with ⟨s', h1, h2⟩ | h1
    · refine qM_shut_s38 h1 ?_ ?_
      · intro z5 z6 ς ee
        cases ee
        exact lM_shut_s38 n z5 z6 ς e h2 hx0
      · intro z5 ς ee
        cases ee
    · refine qM_shut_s38 h1 ?_ ?_
      · intro z5 z6 ς ee
        cases ee
      · intro z5 ς ee
        exact hx0 z5 ς (Sum.inr.inj ee)
theorem qM_shut_x110 {σ : Mem} {x5 : Int32} {o0 : Option AV} {o1 : Option AV} {o2 : Option AV} {o3 : Option AV} {o4 : Option AV} {o6 : Option AV} {o7 : Option AV} {res : Int32 × Mem} (hk : kM_shut_x110 σ x5 = some res) (hP : Po (some (vI res.1)) (hp res.2)) : J l D dA H0 YM_shut h0 Po 0 0 (hp σ) 110 [o0, o1, o2, o3, o4, some (vI x5), o6, o7] [] := by
  unfold kM_shut_x110 at hk
  refine j_iload (pc' := 112) rfl rfl dX9_shut_110 ?_
  obtain rfl := Option.some.inj hk
  exact j_iret rfl ⟨rfl, rfl⟩ dX9_shut_112 hP
theorem qM_shut {σ : Mem} {x1 : Int32} {x2 : Int32} {x3 : Int32} {x4 : Int32} {o5 : Option AV} {o6 : Option AV} {o7 : Option AV} {res : Int32 × Mem} (hk : kM_shut σ x1 x2 x3 x4 = some res) (hP : Po (some (vI res.1)) (hp res.2)) : J l D dA H0 YM_shut h0 Po 0 0 (hp σ) 0 [some (vR (some (30, 0))), some (vI x1), some (vI x2), some (vI x3), some (vI x4), o5, o6, o7] [] := by
  unfold kM_shut at hk
  refine j_aload_n (pc' := 1) rfl rfl dX9_shut_0 ?_
  refine j_iconst (pc' := 2) (v := 0) rfl rfl dX9_shut_1 ?_
  refine j_pi (pc' := 5) (ty := .int) fg_RX9_1 ttX9 rfl rfl ⟨rfl, rfl⟩ rfl (lt_b rfl) rfl rfl dX9_shut_2 ?_
  refine j_aload_n (pc' := 6) rfl rfl dX9_shut_5 ?_
  refine j_iload_n (pc' := 7) rfl rfl dX9_shut_6 ?_
  obtain ⟨⟨r1, σ2⟩, hx, hk⟩ := of_bind hk
  refine j_cv1 (pc' := 10) (LM_isRoom hx) cv_RX9_107 ⟨le_b rfl, le_b rfl⟩ (hp_e rfl) rfl rfl (le_b rfl) ⟨rfl, rfl⟩ ⟨le_b rfl, le_b rfl⟩ rfl rfl dX9_shut_7 ?_
  refine j_if_eq (pc' := 13) (tg := 30) rfl rfl dX9_shut_10 (fun c16 => ?_) (fun c16 => ?_)
  · have hk := (if_pos c16).symm.trans hk
    refine j_iconst (pc' := 31) (v := (-1)) rfl rfl dX9_shut_30 ?_
    obtain rfl := Option.some.inj hk
    exact j_iret rfl ⟨rfl, rfl⟩ dX9_shut_31 hP
  · have hk := (if_neg c16).symm.trans hk
    refine j_aload_n (pc' := 14) rfl rfl dX9_shut_13 ?_
    refine j_getf (pc' := 17) fg_RX9_33 (hp_e rfl) rfl rfl dX9_shut_14 ?_
    refine j_iload_n (pc' := 18) rfl rfl dX9_shut_17 ?_
    obtain ⟨g3, hk⟩ := of_ite hk
    refine j_bald (pc' := 19) (hp_e rfl) (inR_in g3) rfl dX9_shut_18 ?_
    refine j_if_ne (pc' := 22) (tg := 30) rfl rfl dX9_shut_19 (fun c15 => ?_) (fun c15 => ?_)
    · have hk := (if_neg c15).symm.trans hk
      refine j_iconst (pc' := 31) (v := (-1)) rfl rfl dX9_shut_30 ?_
      obtain rfl := Option.some.inj hk
      exact j_iret rfl ⟨rfl, rfl⟩ dX9_shut_31 hP
    · have hk := (if_pos c15).symm.trans hk
      refine j_iload_n (pc' := 23) rfl rfl dX9_shut_22 ?_
      refine j_iload_n (pc' := 24) rfl rfl dX9_shut_23 ?_
      obtain ⟨⟨r4, σ5⟩, hx, hk⟩ := of_bind hk
      refine j_cs1 (pc' := 27) (LM_isSpan hx) cs_RX9_110 ⟨le_b rfl, le_b rfl⟩ rfl (le_b rfl) ⟨rfl, rfl⟩ ⟨le_b rfl, le_b rfl⟩ rfl rfl dX9_shut_24 ?_
      refine j_if_ne (pc' := 30) (tg := 32) rfl rfl dX9_shut_27 (fun c14 => ?_) (fun c14 => ?_)
      · have hk := (if_neg c14).symm.trans hk
        refine j_iconst (pc' := 33) (v := 0) rfl rfl dX9_shut_32 ?_
        refine j_istore (pc' := 35) (lt_b rfl) rfl rfl dX9_shut_33 ?_
        refine j_iload_n (pc' := 36) rfl rfl dX9_shut_35 ?_
        refine j_istore (pc' := 38) (lt_b rfl) rfl rfl dX9_shut_36 ?_
        obtain ⟨e, he, hk⟩ := of_bind hk
        refine lM_shut_s38 FU _ _ _ e he ?_ _ _
        · intro z5 ς ee _ _ _ _ _ _ _
          subst ee
          exact qM_shut_x110 hk hP
      · have hk := (if_pos c14).symm.trans hk
        refine j_iconst (pc' := 31) (v := (-1)) rfl rfl dX9_shut_30 ?_
        obtain rfl := Option.some.inj hk
        exact j_iret rfl ⟨rfl, rfl⟩ dX9_shut_31 hP
theorem LM_shut {σ σ' : Mem} {x1 : Int32} {x2 : Int32} {x3 : Int32} {x4 : Int32} {r : Int32} (hk : kM_shut σ x1 x2 x3 x4 = some (r, σ')) : M l D dA H0 yX9_shut YM_shut [vR (some (30, 0)), vI x1, vI x2, vI x3, vI x4] (hp σ) (fun x h' => x = some (vI r) ∧ h' = hp σ') :=
  m_of (j := 3) (by decide) rfl (fun hh => by cases hh) ⟨fun _ _ => trivial, rfl⟩ (le_b rfl) (qM_shut hk ⟨rfl, rfl⟩)
theorem qM_open_j75 {σ : Mem} {x1 : Int32} {x2 : Int32} {res : Int32 × Mem} (hk : kM_open_j75 σ x1 x2 = some res) (hP : Po (some (vI res.1)) (hp res.2)) : J l D dA H0 YM_open h0 Po 0 0 (hp σ) 75 [some (vR (some (30, 0))), some (vI x1), some (vI x2)] [] := by
  unfold kM_open_j75 at hk
  refine j_aload_n (pc' := 76) rfl rfl dX9_open_75 ?_
  refine j_getf (pc' := 79) fg_RX9_26 (hp_e rfl) rfl rfl dX9_open_76 ?_
  refine j_iload_n (pc' := 80) rfl rfl dX9_open_79 ?_
  refine j_dup2 (pc' := 81) rfl rfl rfl dX9_open_80 ?_
  obtain ⟨g6, hk⟩ := of_ite hk
  refine j_iald (pc' := 82) (hp_e rfl) (inR_in g6) rfl dX9_open_81 ?_
  refine j_iload_n (pc' := 83) rfl rfl dX9_open_82 ?_
  refine j_iadd (pc' := 84) rfl dX9_open_83 ?_
  obtain ⟨g7, hk⟩ := of_ite hk
  refine j_si (pc' := 85) (fun _ _ _ => rfl) (inR_in g7) rfl dX9_open_84 ?_
  refine j_aload_n (pc' := 86) rfl rfl dX9_open_85 ?_
  refine j_getf (pc' := 89) fg_RX9_26 (hp_e rfl) rfl rfl dX9_open_86 ?_
  refine j_iload_n (pc' := 90) rfl rfl dX9_open_89 ?_
  obtain ⟨g8, hk⟩ := of_ite hk
  refine j_iald (pc' := 91) (hp_e rfl) (inR_in g8) rfl dX9_open_90 ?_
  obtain rfl := Option.some.inj hk
  exact j_iret rfl ⟨rfl, rfl⟩ dX9_open_91 hP
theorem qM_open_j39 {σ : Mem} {x1 : Int32} {x2 : Int32} {y0 : Int32} {y1 : Int32} {y2 : Int32} {res : Int32 × Mem} (hk : kM_open_j39 σ x1 x2 y0 y1 y2 = some res) (hP : Po (some (vI res.1)) (hp res.2)) : J l D dA H0 YM_open h0 Po 0 0 (hp σ) 39 [some (vR (some (30, 0))), some (vI x1), some (vI x2)] [vI y0, vI y1, vI y2] := by
  unfold kM_open_j39 at hk
  refine j_isub (pc' := 40) rfl dX9_open_39 ?_
  refine j_ic_le (pc' := 43) (tg := 45) rfl rfl dX9_open_40 (fun c13 => ?_) (fun c13 => ?_)
  · have hk := (if_pos c13).symm.trans hk
    refine j_aload_n (pc' := 46) rfl rfl dX9_open_45 ?_
    refine j_getf (pc' := 49) fg_RX9_33 (hp_e rfl) rfl rfl dX9_open_46 ?_
    refine j_iload_n (pc' := 50) rfl rfl dX9_open_49 ?_
    obtain ⟨g5, hk⟩ := of_ite hk
    refine j_bald (pc' := 51) (hp_e rfl) (inR_in g5) rfl dX9_open_50 ?_
    refine j_if_eq (pc' := 54) (tg := 75) rfl rfl dX9_open_51 (fun c12 => ?_) (fun c12 => ?_)
    · have hk := (if_pos c12).symm.trans hk
      exact qM_open_j75 hk hP
    · have hk := (if_neg c12).symm.trans hk
      refine j_aload_n (pc' := 55) rfl rfl dX9_open_54 ?_
      refine j_getf (pc' := 58) fg_RX9_33 (hp_e rfl) rfl rfl dX9_open_55 ?_
      refine j_iload_n (pc' := 59) rfl rfl dX9_open_58 ?_
      refine j_iconst (pc' := 60) (v := 0) rfl rfl dX9_open_59 ?_
      obtain ⟨g9, hk⟩ := of_ite hk
      refine j_sz (pc' := 61) (fun _ _ _ => rfl) (inR_in g9) rfl dX9_open_60 ?_
      refine j_aload_n (pc' := 62) rfl rfl dX9_open_61 ?_
      refine j_getf (pc' := 65) fg_RX9_26 (hp_e rfl) rfl rfl dX9_open_62 ?_
      refine j_iload_n (pc' := 66) rfl rfl dX9_open_65 ?_
      refine j_iconst (pc' := 67) (v := 0) rfl rfl dX9_open_66 ?_
      obtain ⟨g10, hk⟩ := of_ite hk
      refine j_si (pc' := 68) (fun _ _ _ => rfl) (inR_in g10) rfl dX9_open_67 ?_
      refine j_aload_n (pc' := 69) rfl rfl dX9_open_68 ?_
      refine j_getf (pc' := 72) fg_RX9_29 (hp_e rfl) rfl rfl dX9_open_69 ?_
      refine j_iload_n (pc' := 73) rfl rfl dX9_open_72 ?_
      refine j_lconst (pc' := 74) (v := 0) rfl rfl dX9_open_73 ?_
      obtain ⟨g11, hk⟩ := of_ite hk
      refine j_sl (pc' := 75) (fun _ _ _ => rfl) (inR_in g11) rfl dX9_open_74 ?_
      exact qM_open_j75 hk hP
  · have hk := (if_neg c13).symm.trans hk
    refine j_iconst (pc' := 44) (v := (-1)) rfl rfl dX9_open_43 ?_
    obtain rfl := Option.some.inj hk
    exact j_iret rfl ⟨rfl, rfl⟩ dX9_open_44 hP
theorem qM_open {σ : Mem} {x1 : Int32} {x2 : Int32} {res : Int32 × Mem} (hk : kM_open σ x1 x2 = some res) (hP : Po (some (vI res.1)) (hp res.2)) : J l D dA H0 YM_open h0 Po 0 0 (hp σ) 0 [some (vR (some (30, 0))), some (vI x1), some (vI x2)] [] := by
  unfold kM_open at hk
  refine j_aload_n (pc' := 1) rfl rfl dX9_open_0 ?_
  refine j_iconst (pc' := 2) (v := 0) rfl rfl dX9_open_1 ?_
  refine j_pi (pc' := 5) (ty := .int) fg_RX9_1 ttX9 rfl rfl ⟨rfl, rfl⟩ rfl (lt_b rfl) rfl rfl dX9_open_2 ?_
  refine j_aload_n (pc' := 6) rfl rfl dX9_open_5 ?_
  refine j_iload_n (pc' := 7) rfl rfl dX9_open_6 ?_
  obtain ⟨⟨r1, σ2⟩, hx, hk⟩ := of_bind hk
  refine j_cv1 (pc' := 10) (LM_isRoom hx) cv_RX9_107 ⟨le_b rfl, le_b rfl⟩ (hp_e rfl) rfl rfl (le_b rfl) ⟨rfl, rfl⟩ ⟨le_b rfl, le_b rfl⟩ rfl rfl dX9_open_7 ?_
  refine j_if_eq (pc' := 13) (tg := 43) rfl rfl dX9_open_10 (fun c16 => ?_) (fun c16 => ?_)
  · have hk := (if_pos c16).symm.trans hk
    refine j_iconst (pc' := 44) (v := (-1)) rfl rfl dX9_open_43 ?_
    obtain rfl := Option.some.inj hk
    exact j_iret rfl ⟨rfl, rfl⟩ dX9_open_44 hP
  · have hk := (if_neg c16).symm.trans hk
    refine j_iload_n (pc' := 14) rfl rfl dX9_open_13 ?_
    refine j_if_lt (pc' := 17) (tg := 43) rfl rfl dX9_open_14 (fun c15 => ?_) (fun c15 => ?_)
    · have hk := (if_pos c15).symm.trans hk
      refine j_iconst (pc' := 44) (v := (-1)) rfl rfl dX9_open_43 ?_
      obtain rfl := Option.some.inj hk
      exact j_iret rfl ⟨rfl, rfl⟩ dX9_open_44 hP
    · have hk := (if_neg c15).symm.trans hk
      refine j_iload_n (pc' := 18) rfl rfl dX9_open_17 ?_
      refine j_bipush (pc' := 20) (v := 60) rfl rfl dX9_open_18 ?_
      refine j_aload_n (pc' := 21) rfl rfl dX9_open_20 ?_
      refine j_getf (pc' := 24) fg_RX9_33 (hp_e rfl) rfl rfl dX9_open_21 ?_
      refine j_iload_n (pc' := 25) rfl rfl dX9_open_24 ?_
      obtain ⟨g3, hk⟩ := of_ite hk
      refine j_bald (pc' := 26) (hp_e rfl) (inR_in g3) rfl dX9_open_25 ?_
      refine j_if_eq (pc' := 29) (tg := 33) rfl rfl dX9_open_26 (fun c14 => ?_) (fun c14 => ?_)
      · have hk := (if_pos c14).symm.trans hk
        refine j_aload_n (pc' := 34) rfl rfl dX9_open_33 ?_
        refine j_getf (pc' := 37) fg_RX9_26 (hp_e rfl) rfl rfl dX9_open_34 ?_
        refine j_iload_n (pc' := 38) rfl rfl dX9_open_37 ?_
        obtain ⟨g4, hk⟩ := of_ite hk
        refine j_iald (pc' := 39) (hp_e rfl) (inR_in g4) rfl dX9_open_38 ?_
        exact qM_open_j39 hk hP
      · have hk := (if_neg c14).symm.trans hk
        refine j_iconst (pc' := 30) (v := 0) rfl rfl dX9_open_29 ?_
        refine j_goto (tg := 39) rfl dX9_open_30 ?_
        exact qM_open_j39 hk hP
theorem LM_open {σ σ' : Mem} {x1 : Int32} {x2 : Int32} {r : Int32} (hk : kM_open σ x1 x2 = some (r, σ')) : M l D dA H0 yX9_open YM_open [vR (some (30, 0)), vI x1, vI x2] (hp σ) (fun x h' => x = some (vI r) ∧ h' = hp σ') :=
  m_of (j := 0) (by decide) rfl (fun hh => by cases hh) ⟨fun _ _ => trivial, rfl⟩ (le_b rfl) (qM_open hk ⟨rfl, rfl⟩)
theorem qM_close {σ : Mem} {x1 : Int32} {res : Int32 × Mem} (hk : kM_close σ x1 = some res) (hP : Po (some (vI res.1)) (hp res.2)) : J l D dA H0 YM_close h0 Po 0 0 (hp σ) 0 [some (vR (some (30, 0))), some (vI x1)] [] := by
  unfold kM_close at hk
  refine j_aload_n (pc' := 1) rfl rfl dX9_close_0 ?_
  refine j_iconst (pc' := 2) (v := 0) rfl rfl dX9_close_1 ?_
  refine j_pi (pc' := 5) (ty := .int) fg_RX9_1 ttX9 rfl rfl ⟨rfl, rfl⟩ rfl (lt_b rfl) rfl rfl dX9_close_2 ?_
  refine j_aload_n (pc' := 6) rfl rfl dX9_close_5 ?_
  refine j_iload_n (pc' := 7) rfl rfl dX9_close_6 ?_
  obtain ⟨⟨r1, σ2⟩, hx, hk⟩ := of_bind hk
  refine j_cv1 (pc' := 10) (LM_isRoom hx) cv_RX9_107 ⟨le_b rfl, le_b rfl⟩ (hp_e rfl) rfl rfl (le_b rfl) ⟨rfl, rfl⟩ ⟨le_b rfl, le_b rfl⟩ rfl rfl dX9_close_7 ?_
  refine j_if_eq (pc' := 13) (tg := 22) rfl rfl dX9_close_10 (fun c6 => ?_) (fun c6 => ?_)
  · have hk := (if_pos c6).symm.trans hk
    refine j_iconst (pc' := 23) (v := 0) rfl rfl dX9_close_22 ?_
    obtain rfl := Option.some.inj hk
    exact j_zret rfl rfl ⟨rfl, rfl⟩ dX9_close_23 hP
  · have hk := (if_neg c6).symm.trans hk
    refine j_aload_n (pc' := 14) rfl rfl dX9_close_13 ?_
    refine j_getf (pc' := 17) fg_RX9_33 (hp_e rfl) rfl rfl dX9_close_14 ?_
    refine j_iload_n (pc' := 18) rfl rfl dX9_close_17 ?_
    obtain ⟨g3, hk⟩ := of_ite hk
    refine j_bald (pc' := 19) (hp_e rfl) (inR_in g3) rfl dX9_close_18 ?_
    refine j_if_eq (pc' := 22) (tg := 24) rfl rfl dX9_close_19 (fun c5 => ?_) (fun c5 => ?_)
    · have hk := (if_pos c5).symm.trans hk
      refine j_aload_n (pc' := 25) rfl rfl dX9_close_24 ?_
      refine j_getf (pc' := 28) fg_RX9_33 (hp_e rfl) rfl rfl dX9_close_25 ?_
      refine j_iload_n (pc' := 29) rfl rfl dX9_close_28 ?_
      refine j_iconst (pc' := 30) (v := 1) rfl rfl dX9_close_29 ?_
      obtain ⟨g4, hk⟩ := of_ite hk
      refine j_sz (pc' := 31) (fun _ _ _ => rfl) (inR_in g4) rfl dX9_close_30 ?_
      refine j_iconst (pc' := 32) (v := 1) rfl rfl dX9_close_31 ?_
      obtain rfl := Option.some.inj hk
      exact j_zret rfl rfl ⟨rfl, rfl⟩ dX9_close_32 hP
    · have hk := (if_neg c5).symm.trans hk
      refine j_iconst (pc' := 23) (v := 0) rfl rfl dX9_close_22 ?_
      obtain rfl := Option.some.inj hk
      exact j_zret rfl rfl ⟨rfl, rfl⟩ dX9_close_23 hP
theorem LM_close {σ σ' : Mem} {x1 : Int32} {r : Int32} (hk : kM_close σ x1 = some (r, σ')) : M l D dA H0 yX9_close YM_close [vR (some (30, 0)), vI x1] (hp σ) (fun x h' => x = some (vI r) ∧ h' = hp σ') :=
  m_of (j := 0) (by decide) rfl (fun hh => by cases hh) ⟨fun _ _ => trivial, rfl⟩ (le_b rfl) (qM_close hk ⟨rfl, rfl⟩)
theorem qM_look {σ : Mem} {x1 : Int32} {x2 : Int32} {res : Int32 × Mem} (hk : kM_look σ x1 x2 = some res) (hP : Po (some (vI res.1)) (hp res.2)) : J l D dA H0 YM_look h0 Po 0 0 (hp σ) 0 [some (vR (some (30, 0))), some (vI x1), some (vI x2)] [] := by
  unfold kM_look at hk
  refine j_aload_n (pc' := 1) rfl rfl dX9_look_0 ?_
  refine j_iconst (pc' := 2) (v := 0) rfl rfl dX9_look_1 ?_
  refine j_pi (pc' := 5) (ty := .int) fg_RX9_1 ttX9 rfl rfl ⟨rfl, rfl⟩ rfl (lt_b rfl) rfl rfl dX9_look_2 ?_
  refine j_iload_n (pc' := 6) rfl rfl dX9_look_5 ?_
  obtain ⟨⟨r1, σ2⟩, hx, hk⟩ := of_bind hk
  refine j_cs1 (pc' := 9) (LM_isPlace hx) cs_RX9_103 ⟨le_b rfl, le_b rfl⟩ rfl (le_b rfl) ⟨rfl, rfl⟩ ⟨le_b rfl, le_b rfl⟩ rfl rfl dX9_look_6 ?_
  refine j_if_ne (pc' := 12) (tg := 15) rfl rfl dX9_look_9 (fun c15 => ?_) (fun c15 => ?_)
  · have hk := (if_neg c15).symm.trans hk
    refine j_iload_n (pc' := 16) rfl rfl dX9_look_15 ?_
    refine j_if_ne (pc' := 19) (tg := 26) rfl rfl dX9_look_16 (fun c14 => ?_) (fun c14 => ?_)
    · have hk := (if_neg c14).symm.trans hk
      refine j_aload_n (pc' := 27) rfl rfl dX9_look_26 ?_
      refine j_iload_n (pc' := 28) rfl rfl dX9_look_27 ?_
      obtain ⟨⟨r3, σ4⟩, hx, hk⟩ := of_bind hk
      refine j_cv1 (pc' := 31) (LM_isRoom hx) cv_RX9_107 ⟨le_b rfl, le_b rfl⟩ (hp_e rfl) rfl rfl (le_b rfl) ⟨rfl, rfl⟩ ⟨le_b rfl, le_b rfl⟩ rfl rfl dX9_look_28 ?_
      refine j_if_eq (pc' := 34) (tg := 43) rfl rfl dX9_look_31 (fun c12 => ?_) (fun c12 => ?_)
      · have hk := (if_pos c12).symm.trans hk
        refine j_iconst (pc' := 44) (v := (-1)) rfl rfl dX9_look_43 ?_
        obtain rfl := Option.some.inj hk
        exact j_iret rfl ⟨rfl, rfl⟩ dX9_look_44 hP
      · have hk := (if_neg c12).symm.trans hk
        refine j_iload_n (pc' := 35) rfl rfl dX9_look_34 ?_
        refine j_if_lt (pc' := 38) (tg := 43) rfl rfl dX9_look_35 (fun c11 => ?_) (fun c11 => ?_)
        · have hk := (if_pos c11).symm.trans hk
          refine j_iconst (pc' := 44) (v := (-1)) rfl rfl dX9_look_43 ?_
          obtain rfl := Option.some.inj hk
          exact j_iret rfl ⟨rfl, rfl⟩ dX9_look_44 hP
        · have hk := (if_neg c11).symm.trans hk
          refine j_iload_n (pc' := 39) rfl rfl dX9_look_38 ?_
          refine j_iconst (pc' := 40) (v := 3) rfl rfl dX9_look_39 ?_
          refine j_ic_le (pc' := 43) (tg := 45) rfl rfl dX9_look_40 (fun c10 => ?_) (fun c10 => ?_)
          · have hk := (if_pos c10).symm.trans hk
            refine j_iload_n (pc' := 46) rfl rfl dX9_look_45 ?_
            refine j_iconst (pc' := 47) (v := 1) rfl rfl dX9_look_46 ?_
            refine j_ic_ne (pc' := 50) (tg := 59) rfl rfl dX9_look_47 (fun c9 => ?_) (fun c9 => ?_)
            · have hk := (if_neg c9).symm.trans hk
              refine j_iload_n (pc' := 60) rfl rfl dX9_look_59 ?_
              refine j_iconst (pc' := 61) (v := 2) rfl rfl dX9_look_60 ?_
              refine j_ic_ne (pc' := 64) (tg := 73) rfl rfl dX9_look_61 (fun c7 => ?_) (fun c7 => ?_)
              · have hk := (if_neg c7).symm.trans hk
                refine j_aload_n (pc' := 74) rfl rfl dX9_look_73 ?_
                refine j_getf (pc' := 77) fg_RX9_23 (hp_e rfl) rfl rfl dX9_look_74 ?_
                refine j_iload_n (pc' := 78) rfl rfl dX9_look_77 ?_
                obtain ⟨g5, hk⟩ := of_ite hk
                refine j_iald (pc' := 79) (hp_e rfl) (inR_in g5) rfl dX9_look_78 ?_
                obtain rfl := Option.some.inj hk
                exact j_iret rfl ⟨rfl, rfl⟩ dX9_look_79 hP
              · have hk := (if_pos c7).symm.trans hk
                refine j_aload_n (pc' := 65) rfl rfl dX9_look_64 ?_
                refine j_getf (pc' := 68) fg_RX9_20 (hp_e rfl) rfl rfl dX9_look_65 ?_
                refine j_iload_n (pc' := 69) rfl rfl dX9_look_68 ?_
                obtain ⟨g6, hk⟩ := of_ite hk
                refine j_iald (pc' := 70) (hp_e rfl) (inR_in g6) rfl dX9_look_69 ?_
                refine j_goto (tg := 79) rfl dX9_look_70 ?_
                obtain rfl := Option.some.inj hk
                exact j_iret rfl ⟨rfl, rfl⟩ dX9_look_79 hP
            · have hk := (if_pos c9).symm.trans hk
              refine j_aload_n (pc' := 51) rfl rfl dX9_look_50 ?_
              refine j_getf (pc' := 54) fg_RX9_17 (hp_e rfl) rfl rfl dX9_look_51 ?_
              refine j_iload_n (pc' := 55) rfl rfl dX9_look_54 ?_
              obtain ⟨g8, hk⟩ := of_ite hk
              refine j_iald (pc' := 56) (hp_e rfl) (inR_in g8) rfl dX9_look_55 ?_
              refine j_goto (tg := 79) rfl dX9_look_56 ?_
              obtain rfl := Option.some.inj hk
              exact j_iret rfl ⟨rfl, rfl⟩ dX9_look_79 hP
          · have hk := (if_neg c10).symm.trans hk
            refine j_iconst (pc' := 44) (v := (-1)) rfl rfl dX9_look_43 ?_
            obtain rfl := Option.some.inj hk
            exact j_iret rfl ⟨rfl, rfl⟩ dX9_look_44 hP
    · have hk := (if_pos c14).symm.trans hk
      refine j_aload_n (pc' := 20) rfl rfl dX9_look_19 ?_
      refine j_getf (pc' := 23) fg_RX9_13 (hp_e rfl) rfl rfl dX9_look_20 ?_
      refine j_iload_n (pc' := 24) rfl rfl dX9_look_23 ?_
      obtain ⟨g13, hk⟩ := of_ite hk
      refine j_iald (pc' := 25) (hp_e rfl) (inR_in g13) rfl dX9_look_24 ?_
      obtain rfl := Option.some.inj hk
      exact j_iret rfl ⟨rfl, rfl⟩ dX9_look_25 hP
  · have hk := (if_pos c15).symm.trans hk
    refine j_bipush (pc' := 14) (v := (-2)) rfl rfl dX9_look_12 ?_
    obtain rfl := Option.some.inj hk
    exact j_iret rfl ⟨rfl, rfl⟩ dX9_look_14 hP
theorem LM_look {σ σ' : Mem} {x1 : Int32} {x2 : Int32} {r : Int32} (hk : kM_look σ x1 x2 = some (r, σ')) : M l D dA H0 yX9_look YM_look [vR (some (30, 0)), vI x1, vI x2] (hp σ) (fun x h' => x = some (vI r) ∧ h' = hp σ') :=
  m_of (j := 0) (by decide) rfl (fun hh => by cases hh) ⟨fun _ _ => trivial, rfl⟩ (le_b rfl) (qM_look hk ⟨rfl, rfl⟩)
theorem qM_night {σ : Mem} {x1 : Int32} {x2 : Int32} {res : Int32 × Mem} (hk : kM_night σ x1 x2 = some res) (hP : Po (some (vI res.1)) (hp res.2)) : J l D dA H0 YM_night h0 Po 0 0 (hp σ) 0 [some (vR (some (30, 0))), some (vI x1), some (vI x2)] [] := by
  unfold kM_night at hk
  refine j_aload_n (pc' := 1) rfl rfl dX9_night_0 ?_
  refine j_iconst (pc' := 2) (v := 0) rfl rfl dX9_night_1 ?_
  refine j_pi (pc' := 5) (ty := .int) fg_RX9_1 ttX9 rfl rfl ⟨rfl, rfl⟩ rfl (lt_b rfl) rfl rfl dX9_night_2 ?_
  refine j_iload_n (pc' := 6) rfl rfl dX9_night_5 ?_
  obtain ⟨⟨r1, σ2⟩, hx, hk⟩ := of_bind hk
  refine j_cs1 (pc' := 9) (LM_isNight hx) cs_RX9_114 ⟨le_b rfl, le_b rfl⟩ rfl (le_b rfl) ⟨rfl, rfl⟩ ⟨le_b rfl, le_b rfl⟩ rfl rfl dX9_night_6 ?_
  refine j_if_ne (pc' := 12) (tg := 15) rfl rfl dX9_night_9 (fun c12 => ?_) (fun c12 => ?_)
  · have hk := (if_neg c12).symm.trans hk
    refine j_aload_n (pc' := 16) rfl rfl dX9_night_15 ?_
    refine j_iload_n (pc' := 17) rfl rfl dX9_night_16 ?_
    obtain ⟨⟨r3, σ4⟩, hx, hk⟩ := of_bind hk
    refine j_cv1 (pc' := 20) (LM_isRoom hx) cv_RX9_107 ⟨le_b rfl, le_b rfl⟩ (hp_e rfl) rfl rfl (le_b rfl) ⟨rfl, rfl⟩ ⟨le_b rfl, le_b rfl⟩ rfl rfl dX9_night_17 ?_
    refine j_if_ne (pc' := 23) (tg := 26) rfl rfl dX9_night_20 (fun c11 => ?_) (fun c11 => ?_)
    · have hk := (if_neg c11).symm.trans hk
      refine j_aload_n (pc' := 27) rfl rfl dX9_night_26 ?_
      refine j_getf (pc' := 30) fg_RX9_33 (hp_e rfl) rfl rfl dX9_night_27 ?_
      refine j_iload_n (pc' := 31) rfl rfl dX9_night_30 ?_
      obtain ⟨g5, hk⟩ := of_ite hk
      refine j_bald (pc' := 32) (hp_e rfl) (inR_in g5) rfl dX9_night_31 ?_
      refine j_if_eq (pc' := 35) (tg := 38) rfl rfl dX9_night_32 (fun c10 => ?_) (fun c10 => ?_)
      · have hk := (if_pos c10).symm.trans hk
        refine j_iload_n (pc' := 39) rfl rfl dX9_night_38 ?_
        refine j_aload_n (pc' := 40) rfl rfl dX9_night_39 ?_
        refine j_getf (pc' := 43) fg_RX9_26 (hp_e rfl) rfl rfl dX9_night_40 ?_
        refine j_iload_n (pc' := 44) rfl rfl dX9_night_43 ?_
        obtain ⟨g6, hk⟩ := of_ite hk
        refine j_iald (pc' := 45) (hp_e rfl) (inR_in g6) rfl dX9_night_44 ?_
        refine j_ic_lt (pc' := 48) (tg := 52) rfl rfl dX9_night_45 (fun c9 => ?_) (fun c9 => ?_)
        · have hk := (if_pos c9).symm.trans hk
          refine j_aload_n (pc' := 53) rfl rfl dX9_night_52 ?_
          refine j_getf (pc' := 56) fg_RX9_29 (hp_e rfl) rfl rfl dX9_night_53 ?_
          refine j_iload_n (pc' := 57) rfl rfl dX9_night_56 ?_
          obtain ⟨g7, hk⟩ := of_ite hk
          refine j_lald (pc' := 58) (hp_e rfl) (inR_in g7) rfl dX9_night_57 ?_
          refine j_iload_n (pc' := 59) rfl rfl dX9_night_58 ?_
          refine j_lshr (pc' := 60) rfl dX9_night_59 ?_
          refine j_lconst (pc' := 61) (v := 1) rfl rfl dX9_night_60 ?_
          refine j_land (pc' := 62) rfl dX9_night_61 ?_
          refine j_lconst (pc' := 63) (v := 1) rfl rfl dX9_night_62 ?_
          refine j_lcmp (pc' := 64) rfl dX9_night_63 ?_
          refine j_if_ne (pc' := 67) (tg := 71) rfl rfl dX9_night_64 (fun c8 => ?_) (fun c8 => ?_)
          · have hk := (if_neg c8).symm.trans hk
            refine j_iconst (pc' := 72) (v := 1) rfl rfl dX9_night_71 ?_
            obtain rfl := Option.some.inj hk
            exact j_iret rfl ⟨rfl, rfl⟩ dX9_night_72 hP
          · have hk := (if_pos c8).symm.trans hk
            refine j_iconst (pc' := 68) (v := 0) rfl rfl dX9_night_67 ?_
            refine j_goto (tg := 72) rfl dX9_night_68 ?_
            obtain rfl := Option.some.inj hk
            exact j_iret rfl ⟨rfl, rfl⟩ dX9_night_72 hP
        · have hk := (if_neg c9).symm.trans hk
          refine j_iconst (pc' := 49) (v := (-1)) rfl rfl dX9_night_48 ?_
          refine j_goto (tg := 72) rfl dX9_night_49 ?_
          obtain rfl := Option.some.inj hk
          exact j_iret rfl ⟨rfl, rfl⟩ dX9_night_72 hP
      · have hk := (if_neg c10).symm.trans hk
        refine j_bipush (pc' := 37) (v := (-2)) rfl rfl dX9_night_35 ?_
        obtain rfl := Option.some.inj hk
        exact j_iret rfl ⟨rfl, rfl⟩ dX9_night_37 hP
    · have hk := (if_pos c11).symm.trans hk
      refine j_bipush (pc' := 25) (v := (-3)) rfl rfl dX9_night_23 ?_
      obtain rfl := Option.some.inj hk
      exact j_iret rfl ⟨rfl, rfl⟩ dX9_night_25 hP
  · have hk := (if_pos c12).symm.trans hk
    refine j_bipush (pc' := 14) (v := (-4)) rfl rfl dX9_night_12 ?_
    obtain rfl := Option.some.inj hk
    exact j_iret rfl ⟨rfl, rfl⟩ dX9_night_14 hP
theorem LM_night {σ σ' : Mem} {x1 : Int32} {x2 : Int32} {r : Int32} (hk : kM_night σ x1 x2 = some (r, σ')) : M l D dA H0 yX9_night YM_night [vR (some (30, 0)), vI x1, vI x2] (hp σ) (fun x h' => x = some (vI r) ∧ h' = hp σ') :=
  m_of (j := 0) (by decide) rfl (fun hh => by cases hh) ⟨fun _ _ => trivial, rfl⟩ (le_b rfl) (qM_night hk ⟨rfl, rfl⟩)
end LINK
