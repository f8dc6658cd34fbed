section LINK
variable {l : Launch} {D : va_G} {dA : Nat → ClassId} {H0 : Heap} {h0 : Hx} {Po : Option AV → Hp → Prop}
theorem qV_roomless {σ : Mem} {x1 : Int32} {o2 : Option AV} {o3 : Option AV} {o4 : Option AV} {o5 : Option AV} {o6 : Option AV} {res : Int32 × Mem} (hk : kV_roomless σ x1 = some res) (hP : Po (some (vI res.1)) (hp res.2)) : J l D dA H0 YV_roomless h0 Po 0 0 (hp σ) 0 [some (vR (some (7, 0))), some (vI x1), o2, o3, o4, o5, o6] [] := by
  unfold kV_roomless at hk
  refine j_aload_n (pc' := 1) rfl rfl dX7_roomless_0 ?_
  refine j_getf (pc' := 4) fg_RX7_18 (hp_e rfl) rfl rfl dX7_roomless_1 ?_
  refine j_iconst (pc' := 5) (v := 3) rfl rfl dX7_roomless_4 ?_
  obtain ⟨g1, hk⟩ := of_ite hk
  refine j_iald (pc' := 6) (hp_e rfl) (inR_in g1) rfl dX7_roomless_5 ?_
  refine j_aload_n (pc' := 7) rfl rfl dX7_roomless_6 ?_
  refine j_getf (pc' := 10) fg_RX7_15 (hp_e rfl) rfl rfl dX7_roomless_7 ?_
  refine j_iconst (pc' := 11) (v := 2) rfl rfl dX7_roomless_10 ?_
  obtain ⟨g2, hk⟩ := of_ite hk
  refine j_iald (pc' := 12) (hp_e rfl) (inR_in g2) rfl dX7_roomless_11 ?_
  refine j_min (pc' := 15) ⟨gd_of (i := 439) (by decide +kernel) rfl, gd_of (i := 260) (by decide +kernel) rfl, gd_of (i := 50) (by decide +kernel) rfl, gd_of (i := 261) (by decide +kernel) rfl⟩ (le_b rfl) (le_b rfl) ⟨le_b rfl, le_b rfl⟩ rfl dX7_roomless_12 ?_
  refine j_istore_n (pc' := 16) (lt_b rfl) rfl rfl dX7_roomless_15 ?_
  refine j_aload_n (pc' := 17) rfl rfl dX7_roomless_16 ?_
  refine j_getf (pc' := 20) fg_RX7_15 (hp_e rfl) rfl rfl dX7_roomless_17 ?_
  refine j_iconst (pc' := 21) (v := 2) rfl rfl dX7_roomless_20 ?_
  obtain ⟨g3, hk⟩ := of_ite hk
  refine j_iald (pc' := 22) (hp_e rfl) (inR_in g3) rfl dX7_roomless_21 ?_
  refine j_iload_n (pc' := 23) rfl rfl dX7_roomless_22 ?_
  refine j_isub (pc' := 24) rfl dX7_roomless_23 ?_
  refine j_aload_n (pc' := 25) rfl rfl dX7_roomless_24 ?_
  refine j_getf (pc' := 28) fg_RX7_15 (hp_e rfl) rfl rfl dX7_roomless_25 ?_
  refine j_iconst (pc' := 29) (v := 1) rfl rfl dX7_roomless_28 ?_
  obtain ⟨g4, hk⟩ := of_ite hk
  refine j_iald (pc' := 30) (hp_e rfl) (inR_in g4) rfl dX7_roomless_29 ?_
  refine j_iadd (pc' := 31) rfl dX7_roomless_30 ?_
  refine j_iconst (pc' := 32) (v := 2) rfl rfl dX7_roomless_31 ?_
  refine j_iload_n (pc' := 33) rfl rfl dX7_roomless_32 ?_
  refine j_imul (pc' := 34) rfl dX7_roomless_33 ?_
  refine j_isub (pc' := 35) rfl dX7_roomless_34 ?_
  refine j_istore_n (pc' := 36) (lt_b rfl) rfl rfl dX7_roomless_35 ?_
  refine j_aload_n (pc' := 37) rfl rfl dX7_roomless_36 ?_
  refine j_getf (pc' := 40) fg_RX7_18 (hp_e rfl) rfl rfl dX7_roomless_37 ?_
  refine j_iconst (pc' := 41) (v := 2) rfl rfl dX7_roomless_40 ?_
  obtain ⟨g5, hk⟩ := of_ite hk
  refine j_iald (pc' := 42) (hp_e rfl) (inR_in g5) rfl dX7_roomless_41 ?_
  refine j_iload_n (pc' := 43) rfl rfl dX7_roomless_42 ?_
  refine j_min (pc' := 46) ⟨gd_of (i := 439) (by decide +kernel) rfl, gd_of (i := 260) (by decide +kernel) rfl, gd_of (i := 50) (by decide +kernel) rfl, gd_of (i := 261) (by decide +kernel) rfl⟩ (le_b rfl) (le_b rfl) ⟨le_b rfl, le_b rfl⟩ rfl dX7_roomless_43 ?_
  refine j_istore (pc' := 48) (lt_b rfl) rfl rfl dX7_roomless_46 ?_
  refine j_aload_n (pc' := 49) rfl rfl dX7_roomless_48 ?_
  refine j_getf (pc' := 52) fg_RX7_18 (hp_e rfl) rfl rfl dX7_roomless_49 ?_
  refine j_iconst (pc' := 53) (v := 1) rfl rfl dX7_roomless_52 ?_
  obtain ⟨g6, hk⟩ := of_ite hk
  refine j_iald (pc' := 54) (hp_e rfl) (inR_in g6) rfl dX7_roomless_53 ?_
  refine j_iload_n (pc' := 55) rfl rfl dX7_roomless_54 ?_
  refine j_iload (pc' := 57) rfl rfl dX7_roomless_55 ?_
  refine j_isub (pc' := 58) rfl dX7_roomless_57 ?_
  refine j_aload_n (pc' := 59) rfl rfl dX7_roomless_58 ?_
  refine j_getf (pc' := 62) fg_RX7_15 (hp_e rfl) rfl rfl dX7_roomless_59 ?_
  refine j_iconst (pc' := 63) (v := 0) rfl rfl dX7_roomless_62 ?_
  obtain ⟨g7, hk⟩ := of_ite hk
  refine j_iald (pc' := 64) (hp_e rfl) (inR_in g7) rfl dX7_roomless_63 ?_
  refine j_iadd (pc' := 65) rfl dX7_roomless_64 ?_
  refine j_min (pc' := 68) ⟨gd_of (i := 439) (by decide +kernel) rfl, gd_of (i := 260) (by decide +kernel) rfl, gd_of (i := 50) (by decide +kernel) rfl, gd_of (i := 261) (by decide +kernel) rfl⟩ (le_b rfl) (le_b rfl) ⟨le_b rfl, le_b rfl⟩ rfl dX7_roomless_65 ?_
  refine j_istore (pc' := 70) (lt_b rfl) rfl rfl dX7_roomless_68 ?_
  refine j_aload_n (pc' := 71) rfl rfl dX7_roomless_70 ?_
  refine j_getf (pc' := 74) fg_RX7_18 (hp_e rfl) rfl rfl dX7_roomless_71 ?_
  refine j_iconst (pc' := 75) (v := 1) rfl rfl dX7_roomless_74 ?_
  obtain ⟨g8, hk⟩ := of_ite hk
  refine j_iald (pc' := 76) (hp_e rfl) (inR_in g8) rfl dX7_roomless_75 ?_
  refine j_aload_n (pc' := 77) rfl rfl dX7_roomless_76 ?_
  refine j_getf (pc' := 80) fg_RX7_18 (hp_e rfl) rfl rfl dX7_roomless_77 ?_
  refine j_iconst (pc' := 81) (v := 2) rfl rfl dX7_roomless_80 ?_
  obtain ⟨g9, hk⟩ := of_ite hk
  refine j_iald (pc' := 82) (hp_e rfl) (inR_in g9) rfl dX7_roomless_81 ?_
  refine j_iadd (pc' := 83) rfl dX7_roomless_82 ?_
  refine j_aload_n (pc' := 84) rfl rfl dX7_roomless_83 ?_
  refine j_getf (pc' := 87) fg_RX7_18 (hp_e rfl) rfl rfl dX7_roomless_84 ?_
  refine j_iconst (pc' := 88) (v := 3) rfl rfl dX7_roomless_87 ?_
  obtain ⟨g10, hk⟩ := of_ite hk
  refine j_iald (pc' := 89) (hp_e rfl) (inR_in g10) rfl dX7_roomless_88 ?_
  refine j_iadd (pc' := 90) rfl dX7_roomless_89 ?_
  refine j_aload_n (pc' := 91) rfl rfl dX7_roomless_90 ?_
  refine j_getf (pc' := 94) fg_RX7_18 (hp_e rfl) rfl rfl dX7_roomless_91 ?_
  refine j_iconst (pc' := 95) (v := 4) rfl rfl dX7_roomless_94 ?_
  obtain ⟨g11, hk⟩ := of_ite hk
  refine j_iald (pc' := 96) (hp_e rfl) (inR_in g11) rfl dX7_roomless_95 ?_
  refine j_iadd (pc' := 97) rfl dX7_roomless_96 ?_
  refine j_istore (pc' := 99) (lt_b rfl) rfl rfl dX7_roomless_97 ?_
  refine j_iload (pc' := 101) rfl rfl dX7_roomless_99 ?_
  refine j_iload_n (pc' := 102) rfl rfl dX7_roomless_101 ?_
  refine j_isub (pc' := 103) rfl dX7_roomless_102 ?_
  refine j_iload (pc' := 105) rfl rfl dX7_roomless_103 ?_
  refine j_isub (pc' := 106) rfl dX7_roomless_105 ?_
  refine j_iload (pc' := 108) rfl rfl dX7_roomless_106 ?_
  refine j_isub (pc' := 109) rfl dX7_roomless_108 ?_
  refine j_iload_n (pc' := 110) rfl rfl dX7_roomless_109 ?_
  refine j_isub (pc' := 111) rfl dX7_roomless_110 ?_
  obtain rfl := Option.some.inj hk
  exact j_iret rfl ⟨rfl, rfl⟩ dX7_roomless_111 hP
theorem LV_roomless {σ σ' : Mem} {x1 : Int32} {r : Int32} (hk : kV_roomless σ x1 = some (r, σ')) : M l D dA H0 yX7_roomless YV_roomless [vR (some (7, 0)), vI x1] (hp σ) (fun x h' => x = some (vI r) ∧ h' = hp σ') :=
  m_of (j := 5) (by decide) rfl (fun hh => by cases hh) ⟨fun _ _ => trivial, rfl⟩ (le_b rfl) (qV_roomless hk ⟨rfl, rfl⟩)
theorem qV_shortage_s22 {σ : Mem} {x1 : Int32} {x2 : Int32} {x3 : Int32} {out : (Int32 × Int32 × Mem) ⊕ (Int32 × Mem)} (hk : kV_shortage_s22 x1 (x2, x3, σ) = some out) (hc : ∀ (z2 : Int32) (z3 : Int32) (ς : Mem), out = .inl (z2, z3, ς) → ∀ (_ : Unit), J l D dA H0 YV_shortage h0 Po 0 0 (hp ς) 22 [some (vR (some (7, 0))), some (vI x1), some (vI z2), some (vI z3)] []) (hx0 : ∀ (z2 : Int32) (ς : Mem), out = .inr (z2, ς) → ∀ (o1 o3 : Option AV), J l D dA H0 YV_shortage h0 Po 0 0 (hp ς) 43 [some (vR (some (7, 0))), o1, some (vI z2), o3] []) : J l D dA H0 YV_shortage h0 Po 0 0 (hp σ) 22 [some (vR (some (7, 0))), some (vI x1), some (vI x2), some (vI x3)] [] := by
  unfold kV_shortage_s22 at hk
  refine j_iload_n (pc' := 23) rfl rfl dX7_shortage_22 ?_
  refine j_iload_n (pc' := 24) rfl rfl dX7_shortage_23 ?_
  refine j_ic_gt (pc' := 27) (tg := 43) rfl rfl dX7_shortage_24 (fun c6 => ?_) (fun c6 => ?_)
  · have hk := (if_pos c6).symm.trans hk
    obtain rfl := Option.some.inj hk
    exact hx0 _ _ rfl _ _
  · have hk := (if_neg c6).symm.trans hk
    refine j_iload_n (pc' := 28) rfl rfl dX7_shortage_27 ?_
    refine j_aload_n (pc' := 29) rfl rfl dX7_shortage_28 ?_
    refine j_iload_n (pc' := 30) rfl rfl dX7_shortage_29 ?_
    obtain ⟨⟨r4, σ5⟩, hx, hk⟩ := of_bind hk
    refine j_cv1 (pc' := 33) (LV_roomless hx) cv_RX7_70 ⟨le_b rfl, le_b rfl⟩ (hp_e rfl) rfl rfl (le_b rfl) ⟨rfl, rfl⟩ ⟨le_b rfl, le_b rfl⟩ rfl rfl dX7_shortage_30 ?_
    refine j_min (pc' := 36) ⟨gd_of (i := 439) (by decide +kernel) rfl, gd_of (i := 260) (by decide +kernel) rfl, gd_of (i := 50) (by decide +kernel) rfl, gd_of (i := 261) (by decide +kernel) rfl⟩ (le_b rfl) (le_b rfl) ⟨le_b rfl, le_b rfl⟩ rfl dX7_shortage_33 ?_
    refine j_istore_n (pc' := 37) (lt_b rfl) rfl rfl dX7_shortage_36 ?_
    refine j_iinc (pc' := 40) (v := x3 + 1) rfl rfl (lt_b rfl) rfl rfl dX7_shortage_37 ?_
    refine j_goto (tg := 22) rfl dX7_shortage_40 ?_
    obtain rfl := Option.some.inj hk
    exact hc _ _ _ rfl ()
theorem lV_shortage_s22 {x1 : Int32} : ∀ (n : Nat) (x2 : Int32) (x3 : Int32) (σ : Mem) (e : (Int32 × Mem)), loopF n (kV_shortage_s22 x1) (x2, x3, σ) = some e → (∀ (z2 : Int32) (ς : Mem), e = (z2, ς) → ∀ (o1 o3 : Option AV), J l D dA H0 YV_shortage h0 Po 0 0 (hp ς) 43 [some (vR (some (7, 0))), o1, some (vI z2), o3] []) → ∀ (_ : Unit), J l D dA H0 YV_shortage h0 Po 0 0 (hp σ) 22 [some (vR (some (7, 0))), some (vI x1), some (vI x2), some (vI x3)] []
  | 0, x2, x3, σ, e, he => by cases he
  | n + 1, x2, x3, σ, e, he => by
    intro hx0 u
    rcases loopF_succ he with ⟨s', h1, h2⟩ | h1
    · refine qV_shortage_s22 h1 ?_ ?_
      · intro z2 z3 ς ee
        cases ee
        exact lV_shortage_s22 n z2 z3 ς e h2 hx0
      · intro z2 ς ee
        cases ee
    · refine qV_shortage_s22 h1 ?_ ?_
      · intro z2 z3 ς ee
        cases ee
      · intro z2 ς ee
        exact hx0 z2 ς (Sum.inr.inj ee)
theorem qV_shortage_x43 {σ : Mem} {x2 : Int32} {o1 : Option AV} {o3 : Option AV} {res : Int32 × Mem} (hk : kV_shortage_x43 σ x2 = some res) (hP : Po (some (vI res.1)) (hp res.2)) : J l D dA H0 YV_shortage h0 Po 0 0 (hp σ) 43 [some (vR (some (7, 0))), o1, some (vI x2), o3] [] := by
  unfold kV_shortage_x43 at hk
  refine j_iload_n (pc' := 44) rfl rfl dX7_shortage_43 ?_
  refine j_iconst (pc' := 45) (v := 0) rfl rfl dX7_shortage_44 ?_
  refine j_aload_n (pc' := 46) rfl rfl dX7_shortage_45 ?_
  refine j_getf (pc' := 49) fg_RX7_18 (hp_e rfl) rfl rfl dX7_shortage_46 ?_
  refine j_iconst (pc' := 50) (v := 0) rfl rfl dX7_shortage_49 ?_
  obtain ⟨g7, hk⟩ := of_ite hk
  refine j_iald (pc' := 51) (hp_e rfl) (inR_in g7) rfl dX7_shortage_50 ?_
  refine j_aload_n (pc' := 52) rfl rfl dX7_shortage_51 ?_
  refine j_getf (pc' := 55) fg_RX7_15 (hp_e rfl) rfl rfl dX7_shortage_52 ?_
  refine j_iconst (pc' := 56) (v := 3) rfl rfl dX7_shortage_55 ?_
  obtain ⟨g8, hk⟩ := of_ite hk
  refine j_iald (pc' := 57) (hp_e rfl) (inR_in g8) rfl dX7_shortage_56 ?_
  refine j_isub (pc' := 58) rfl dX7_shortage_57 ?_
  refine j_max (pc' := 61) ⟨gd_of (i := 444) (by decide +kernel) rfl, gd_of (i := 263) (by decide +kernel) rfl, gd_of (i := 50) (by decide +kernel) rfl, gd_of (i := 264) (by decide +kernel) rfl⟩ (le_b rfl) (le_b rfl) ⟨le_b rfl, le_b rfl⟩ rfl dX7_shortage_58 ?_
  refine j_iadd (pc' := 62) rfl dX7_shortage_61 ?_
  obtain rfl := Option.some.inj hk
  exact j_iret rfl ⟨rfl, rfl⟩ dX7_shortage_62 hP
theorem qV_shortage {σ : Mem} {o1 : Option AV} {o2 : Option AV} {o3 : Option AV} {res : Int32 × Mem} (hk : kV_shortage σ = some res) (hP : Po (some (vI res.1)) (hp res.2)) : J l D dA H0 YV_shortage h0 Po 0 0 (hp σ) 0 [some (vR (some (7, 0))), o1, o2, o3] [] := by
  unfold kV_shortage at hk
  refine j_aload_n (pc' := 1) rfl rfl dX7_shortage_0 ?_
  refine j_getf (pc' := 4) fg_RX7_18 (hp_e rfl) rfl rfl dX7_shortage_1 ?_
  refine j_iconst (pc' := 5) (v := 4) rfl rfl dX7_shortage_4 ?_
  obtain ⟨g1, hk⟩ := of_ite hk
  refine j_iald (pc' := 6) (hp_e rfl) (inR_in g1) rfl dX7_shortage_5 ?_
  refine j_aload_n (pc' := 7) rfl rfl dX7_shortage_6 ?_
  refine j_getf (pc' := 10) fg_RX7_31 (hp_e rfl) rfl rfl dX7_shortage_7 ?_
  refine j_min (pc' := 13) ⟨gd_of (i := 439) (by decide +kernel) rfl, gd_of (i := 260) (by decide +kernel) rfl, gd_of (i := 50) (by decide +kernel) rfl, gd_of (i := 261) (by decide +kernel) rfl⟩ (le_b rfl) (le_b rfl) ⟨le_b rfl, le_b rfl⟩ rfl dX7_shortage_10 ?_
  refine j_istore_n (pc' := 14) (lt_b rfl) rfl rfl dX7_shortage_13 ?_
  refine j_aload_n (pc' := 15) rfl rfl dX7_shortage_14 ?_
  refine j_iconst (pc' := 16) (v := 0) rfl rfl dX7_shortage_15 ?_
  obtain ⟨⟨r2, σ3⟩, hx, hk⟩ := of_bind hk
  refine j_cv1 (pc' := 19) (LV_roomless hx) cv_RX7_70 ⟨le_b rfl, le_b rfl⟩ (hp_e rfl) rfl rfl (le_b rfl) ⟨rfl, rfl⟩ ⟨le_b rfl, le_b rfl⟩ rfl rfl dX7_shortage_16 ?_
  refine j_istore_n (pc' := 20) (lt_b rfl) rfl rfl dX7_shortage_19 ?_
  refine j_iconst (pc' := 21) (v := 1) rfl rfl dX7_shortage_20 ?_
  refine j_istore_n (pc' := 22) (lt_b rfl) rfl rfl dX7_shortage_21 ?_
  obtain ⟨e, he, hk⟩ := of_bind hk
  refine lV_shortage_s22 FU _ _ _ e he ?_ ()
  · intro z2 ς ee _ _
    subst ee
    exact qV_shortage_x43 hk hP
theorem LV_shortage {σ σ' : Mem} {r : Int32} (hk : kV_shortage σ = some (r, σ')) : M l D dA H0 yX7_shortage YV_shortage [vR (some (7, 0))] (hp σ) (fun x h' => x = some (vI r) ∧ h' = hp σ') :=
  m_of (j := 3) (by decide) rfl (fun hh => by cases hh) ⟨fun _ _ => trivial, rfl⟩ (le_b rfl) (qV_shortage hk ⟨rfl, rfl⟩)
theorem qG_replanFrom {σ : Mem} {x1 : Int32} {res : Unit × Mem} (hk : kG_replanFrom σ x1 = some res) (hP : Po none (hp res.2)) : J l D dA H0 YG_replanFrom h0 Po 0 0 (hp σ) 0 [some (vR (some (1, 0))), some (vI x1)] [] := by
  unfold kG_replanFrom at hk
  refine j_aload_n (pc' := 1) rfl rfl dX8_replanFrom_0 ?_
  refine j_aload_n (pc' := 2) rfl rfl dX8_replanFrom_1 ?_
  refine j_getf (pc' := 5) fg_RX8_120 (hp_e rfl) rfl rfl dX8_replanFrom_2 ?_
  refine j_aload_n (pc' := 6) rfl rfl dX8_replanFrom_5 ?_
  refine j_getf (pc' := 9) fg_RX8_176 (hp_e rfl) rfl rfl dX8_replanFrom_6 ?_
  refine j_iload_n (pc' := 10) rfl rfl dX8_replanFrom_9 ?_
  refine j_min (pc' := 13) ⟨gd_of (i := 259) (by decide +kernel) rfl, gd_of (i := 260) (by decide +kernel) rfl, gd_of (i := 50) (by decide +kernel) rfl, gd_of (i := 261) (by decide +kernel) rfl⟩ (le_b rfl) (le_b rfl) ⟨le_b rfl, le_b rfl⟩ rfl dX8_replanFrom_10 ?_
  refine j_max (pc' := 16) ⟨gd_of (i := 262) (by decide +kernel) rfl, gd_of (i := 263) (by decide +kernel) rfl, gd_of (i := 50) (by decide +kernel) rfl, gd_of (i := 264) (by decide +kernel) rfl⟩ (le_b rfl) (le_b rfl) ⟨le_b rfl, le_b rfl⟩ rfl dX8_replanFrom_13 ?_
  refine j_pi (pc' := 19) (ty := .int) fg_RX8_176 ttX8 rfl rfl ⟨rfl, rfl⟩ rfl (lt_b rfl) rfl rfl dX8_replanFrom_16 ?_
  obtain rfl := Option.some.inj hk
  exact j_ret rfl ⟨rfl, rfl⟩ dX8_replanFrom_19 hP
theorem LG_replanFrom {σ σ' : Mem} {x1 : Int32} {r : Unit} (hk : kG_replanFrom σ x1 = some (r, σ')) : M l D dA H0 yX8_replanFrom YG_replanFrom [vR (some (1, 0)), vI x1] (hp σ) (fun x h' => x = none ∧ h' = hp σ') :=
  m_of (j := 0) (by decide) rfl (fun hh => by cases hh) ⟨fun _ _ => trivial, rfl⟩ (le_b rfl) (qG_replanFrom hk ⟨rfl, rfl⟩)
theorem qG_room_j64 {σ : Mem} {x1 : Int32} {x2 : Int32} {x3 : Int32} {x4 : Int32} {x5 : Int32} {res : Int32 × Mem} (hk : kG_room_j64 σ x1 x2 x3 x4 x5 = some res) (hP : Po (some (vI res.1)) (hp res.2)) : J l D dA H0 YG_room h0 Po 0 0 (hp σ) 64 [some (vR (some (1, 0))), some (vI x1), some (vI x2), some (vI x3), some (vI x4), some (vI x5)] [] := by
  unfold kG_room_j64 at hk
  refine j_aload_n (pc' := 65) rfl rfl dX8_room_64 ?_
  refine j_getf (pc' := 68) fg_RX8_10 (hp_e rfl) rfl rfl dX8_room_65 ?_
  refine j_iload_n (pc' := 69) rfl rfl dX8_room_68 ?_
  obtain ⟨g3, hk⟩ := of_ite hk
  refine j_new (pc' := 72) (20, ix x1) (c := 4) (fs := [vI 0, vI 0, vI 0, vI 0, vI 0, vI 0, vL 0]) (hp_no g3) rfl gdX4 tyX4 tyX4_ok ⟨gd_of (i := 213) (by decide +kernel) rfl, gd_of (i := 214) (by decide +kernel) rfl, gd_of (i := 49) (by decide +kernel) rfl⟩ (by decide) (fun _ => by simp [okE, okV]) ⟨le_b rfl, le_b rfl⟩ rfl dX8_room_69 ?_
  refine j_dup (pc' := 73) rfl rfl dX8_room_72 ?_
  refine j_iload_n (pc' := 74) rfl rfl dX8_room_73 ?_
  refine j_iload_n (pc' := 75) rfl rfl dX8_room_74 ?_
  refine j_iload (pc' := 77) rfl rfl dX8_room_75 ?_
  refine j_iload (pc' := 79) rfl rfl dX8_room_77 ?_
  obtain ⟨⟨_, σ5⟩, hx, hk⟩ := of_bind hk
  refine j_callI (pc' := 82) (LR_init hx) ci_RX8_54 ⟨le_b rfl, le_b rfl⟩ rfl (le_b rfl) ⟨le_b rfl, le_b rfl⟩ rfl rfl dX8_room_79 (fun _ _ hPq => ?_)
  obtain ⟨rfl, rfl⟩ := hPq
  obtain ⟨⟨_, σ7⟩, hx, hk⟩ := of_bind hk
  refine j_cv0 (pc' := 85) (LH_putRoom hx) cv_RX8_57 ⟨le_b rfl, le_b rfl⟩ (hp_e rfl) rfl rfl (le_b rfl) ⟨rfl, rfl⟩ ⟨le_b rfl, le_b rfl⟩ rfl rfl dX8_room_82 ?_
  refine j_aload_n (pc' := 86) rfl rfl dX8_room_85 ?_
  refine j_iconst (pc' := 87) (v := 0) rfl rfl dX8_room_86 ?_
  obtain ⟨⟨_, σ9⟩, hx, hk⟩ := of_bind hk
  refine j_cv0 (pc' := 90) (LG_replanFrom hx) cv_RX8_61 ⟨le_b rfl, le_b rfl⟩ (hp_e rfl) rfl rfl (le_b rfl) ⟨rfl, rfl⟩ ⟨le_b rfl, le_b rfl⟩ rfl rfl dX8_room_87 ?_
  refine j_iconst (pc' := 91) (v := 1) rfl rfl dX8_room_90 ?_
  obtain rfl := Option.some.inj hk
  refine j_wide (k' := 1) (n' := 7) (le_b rfl) (le_b rfl) ?_
  exact j_zret rfl rfl ⟨rfl, rfl⟩ dX8_room_91 hP
theorem qG_room {σ : Mem} {x1 : Int32} {x2 : Int32} {x3 : Int32} {x4 : Int32} {x5 : Int32} {res : Int32 × Mem} (hk : kG_room σ x1 x2 x3 x4 x5 = some res) (hP : Po (some (vI res.1)) (hp res.2)) : J l D dA H0 YG_room h0 Po 0 0 (hp σ) 0 [some (vR (some (1, 0))), some (vI x1), some (vI x2), some (vI x3), some (vI x4), some (vI x5)] [] := by
  unfold kG_room at hk
  refine j_aload_n (pc' := 1) rfl rfl dX8_room_0 ?_
  refine j_getf (pc' := 4) fg_RX8_10 (hp_e rfl) rfl rfl dX8_room_1 ?_
  refine j_iload_n (pc' := 5) rfl rfl dX8_room_4 ?_
  obtain ⟨⟨r1, σ2⟩, hx, hk⟩ := of_bind hk
  refine j_cv1 (pc' := 8) (LH_isEmpty hx) cv_RX8_48 ⟨le_b rfl, le_b rfl⟩ (hp_e rfl) rfl rfl (le_b rfl) ⟨rfl, rfl⟩ ⟨le_b rfl, le_b rfl⟩ rfl rfl dX8_room_5 ?_
  refine j_if_eq (pc' := 11) (tg := 30) rfl rfl dX8_room_8 (fun c19 => ?_) (fun c19 => ?_)
  · have hk := (if_pos c19).symm.trans hk
    refine j_iconst (pc' := 31) (v := 0) rfl rfl dX8_room_30 ?_
    obtain rfl := Option.some.inj hk
    refine j_wide (k' := 1) (n' := 7) (le_b rfl) (le_b rfl) ?_
    exact j_zret rfl rfl ⟨rfl, rfl⟩ dX8_room_31 hP
  · have hk := (if_neg c19).symm.trans hk
    refine j_iload_n (pc' := 12) rfl rfl dX8_room_11 ?_
    refine j_if_lt (pc' := 15) (tg := 30) rfl rfl dX8_room_12 (fun c18 => ?_) (fun c18 => ?_)
    · have hk := (if_pos c18).symm.trans hk
      refine j_iconst (pc' := 31) (v := 0) rfl rfl dX8_room_30 ?_
      obtain rfl := Option.some.inj hk
      refine j_wide (k' := 1) (n' := 7) (le_b rfl) (le_b rfl) ?_
      exact j_zret rfl rfl ⟨rfl, rfl⟩ dX8_room_31 hP
    · have hk := (if_neg c18).symm.trans hk
      refine j_iload_n (pc' := 16) rfl rfl dX8_room_15 ?_
      refine j_iconst (pc' := 17) (v := 4) rfl rfl dX8_room_16 ?_
      refine j_ic_ge (pc' := 20) (tg := 30) rfl rfl dX8_room_17 (fun c17 => ?_) (fun c17 => ?_)
      · have hk := (if_pos c17).symm.trans hk
        refine j_iconst (pc' := 31) (v := 0) rfl rfl dX8_room_30 ?_
        obtain rfl := Option.some.inj hk
        refine j_wide (k' := 1) (n' := 7) (le_b rfl) (le_b rfl) ?_
        exact j_zret rfl rfl ⟨rfl, rfl⟩ dX8_room_31 hP
      · have hk := (if_neg c17).symm.trans hk
        refine j_iload_n (pc' := 21) rfl rfl dX8_room_20 ?_
        refine j_if_lt (pc' := 24) (tg := 30) rfl rfl dX8_room_21 (fun c16 => ?_) (fun c16 => ?_)
        · have hk := (if_pos c16).symm.trans hk
          refine j_iconst (pc' := 31) (v := 0) rfl rfl dX8_room_30 ?_
          obtain rfl := Option.some.inj hk
          refine j_wide (k' := 1) (n' := 7) (le_b rfl) (le_b rfl) ?_
          exact j_zret rfl rfl ⟨rfl, rfl⟩ dX8_room_31 hP
        · have hk := (if_neg c16).symm.trans hk
          refine j_iload_n (pc' := 25) rfl rfl dX8_room_24 ?_
          refine j_bipush (pc' := 27) (v := 10) rfl rfl dX8_room_25 ?_
          refine j_ic_lt (pc' := 30) (tg := 32) rfl rfl dX8_room_27 (fun c15 => ?_) (fun c15 => ?_)
          · have hk := (if_pos c15).symm.trans hk
            refine j_iload (pc' := 34) rfl rfl dX8_room_32 ?_
            refine j_if_lt (pc' := 37) (tg := 62) rfl rfl dX8_room_34 (fun c14 => ?_) (fun c14 => ?_)
            · have hk := (if_pos c14).symm.trans hk
              refine j_iconst (pc' := 63) (v := 0) rfl rfl dX8_room_62 ?_
              obtain rfl := Option.some.inj hk
              refine j_wide (k' := 1) (n' := 7) (le_b rfl) (le_b rfl) ?_
              exact j_zret rfl rfl ⟨rfl, rfl⟩ dX8_room_63 hP
            · have hk := (if_neg c14).symm.trans hk
              refine j_iload (pc' := 39) rfl rfl dX8_room_37 ?_
              refine j_bipush (pc' := 41) (v := 60) rfl rfl dX8_room_39 ?_
              refine j_ic_gt (pc' := 44) (tg := 62) rfl rfl dX8_room_41 (fun c13 => ?_) (fun c13 => ?_)
              · have hk := (if_pos c13).symm.trans hk
                refine j_iconst (pc' := 63) (v := 0) rfl rfl dX8_room_62 ?_
                obtain rfl := Option.some.inj hk
                refine j_wide (k' := 1) (n' := 7) (le_b rfl) (le_b rfl) ?_
                exact j_zret rfl rfl ⟨rfl, rfl⟩ dX8_room_63 hP
              · have hk := (if_neg c13).symm.trans hk
                refine j_iload_n (pc' := 45) rfl rfl dX8_room_44 ?_
                refine j_iconst (pc' := 46) (v := 3) rfl rfl dX8_room_45 ?_
                refine j_ic_ne (pc' := 49) (tg := 64) rfl rfl dX8_room_46 (fun c12 => ?_) (fun c12 => ?_)
                · have hk := (if_neg c12).symm.trans hk
                  exact qG_room_j64 hk hP
                · have hk := (if_pos c12).symm.trans hk
                  refine j_iload (pc' := 51) rfl rfl dX8_room_49 ?_
                  refine j_iconst (pc' := 52) (v := 2) rfl rfl dX8_room_51 ?_
                  refine j_ic_lt (pc' := 55) (tg := 62) rfl rfl dX8_room_52 (fun c11 => ?_) (fun c11 => ?_)
                  · have hk := (if_pos c11).symm.trans hk
                    refine j_iconst (pc' := 63) (v := 0) rfl rfl dX8_room_62 ?_
                    obtain rfl := Option.some.inj hk
                    refine j_wide (k' := 1) (n' := 7) (le_b rfl) (le_b rfl) ?_
                    exact j_zret rfl rfl ⟨rfl, rfl⟩ dX8_room_63 hP
                  · have hk := (if_neg c11).symm.trans hk
                    refine j_iload (pc' := 57) rfl rfl dX8_room_55 ?_
                    refine j_bipush (pc' := 59) (v := 6) rfl rfl dX8_room_57 ?_
                    refine j_ic_le (pc' := 62) (tg := 64) rfl rfl dX8_room_59 (fun c10 => ?_) (fun c10 => ?_)
                    · have hk := (if_pos c10).symm.trans hk
                      exact qG_room_j64 hk hP
                    · have hk := (if_neg c10).symm.trans hk
                      refine j_iconst (pc' := 63) (v := 0) rfl rfl dX8_room_62 ?_
                      obtain rfl := Option.some.inj hk
                      refine j_wide (k' := 1) (n' := 7) (le_b rfl) (le_b rfl) ?_
                      exact j_zret rfl rfl ⟨rfl, rfl⟩ dX8_room_63 hP
          · have hk := (if_neg c15).symm.trans hk
            refine j_iconst (pc' := 31) (v := 0) rfl rfl dX8_room_30 ?_
            obtain rfl := Option.some.inj hk
            refine j_wide (k' := 1) (n' := 7) (le_b rfl) (le_b rfl) ?_
            exact j_zret rfl rfl ⟨rfl, rfl⟩ dX8_room_31 hP
theorem LG_room {σ σ' : Mem} {x1 : Int32} {x2 : Int32} {x3 : Int32} {x4 : Int32} {x5 : Int32} {r : Int32} (hk : kG_room σ x1 x2 x3 x4 x5 = some (r, σ')) : M l D dA H0 yX8_room YG_room [vR (some (1, 0)), vI x1, vI x2, vI x3, vI x4, vI x5] (hp σ) (fun x h' => x = some (vI r) ∧ h' = hp σ') :=
  m_of (j := 0) (by decide) rfl (fun hh => by cases hh) ⟨fun _ _ => trivial, rfl⟩ (le_b rfl) (qG_room hk ⟨rfl, rfl⟩)
theorem qG_store {σ : Mem} {x1 : Int32} {res : Int32 × Mem} (hk : kG_store σ x1 = some res) (hP : Po (some (vI res.1)) (hp res.2)) : J l D dA H0 YG_store h0 Po 0 0 (hp σ) 0 [some (vR (some (1, 0))), some (vI x1)] [] := by
  unfold kG_store at hk
  refine j_aload_n (pc' := 1) rfl rfl dX8_store_0 ?_
  refine j_getf (pc' := 4) fg_RX8_10 (hp_e rfl) rfl rfl dX8_store_1 ?_
  refine j_iload_n (pc' := 5) rfl rfl dX8_store_4 ?_
  obtain ⟨⟨r1, σ2⟩, hx, hk⟩ := of_bind hk
  refine j_cv1 (pc' := 8) (LH_isEmpty hx) cv_RX8_48 ⟨le_b rfl, le_b rfl⟩ (hp_e rfl) rfl rfl (le_b rfl) ⟨rfl, rfl⟩ ⟨le_b rfl, le_b rfl⟩ rfl rfl dX8_store_5 ?_
  refine j_if_ne (pc' := 11) (tg := 13) rfl rfl dX8_store_8 (fun c5 => ?_) (fun c5 => ?_)
  · have hk := (if_neg c5).symm.trans hk
    refine j_aload_n (pc' := 14) rfl rfl dX8_store_13 ?_
    refine j_getf (pc' := 17) fg_RX8_10 (hp_e rfl) rfl rfl dX8_store_14 ?_
    refine j_iload_n (pc' := 18) rfl rfl dX8_store_17 ?_
    obtain ⟨⟨_, σ4⟩, hx, hk⟩ := of_bind hk
    refine j_cv0 (pc' := 21) (LH_putStore hx) cv_RX8_65 ⟨le_b rfl, le_b rfl⟩ (hp_e rfl) rfl rfl (le_b rfl) ⟨rfl, rfl⟩ ⟨le_b rfl, le_b rfl⟩ rfl rfl dX8_store_18 ?_
    refine j_iconst (pc' := 22) (v := 1) rfl rfl dX8_store_21 ?_
    obtain rfl := Option.some.inj hk
    exact j_zret rfl rfl ⟨rfl, rfl⟩ dX8_store_22 hP
  · have hk := (if_pos c5).symm.trans hk
    refine j_iconst (pc' := 12) (v := 0) rfl rfl dX8_store_11 ?_
    obtain rfl := Option.some.inj hk
    exact j_zret rfl rfl ⟨rfl, rfl⟩ dX8_store_12 hP
theorem LG_store {σ σ' : Mem} {x1 : Int32} {r : Int32} (hk : kG_store σ x1 = some (r, σ')) : M l D dA H0 yX8_store YG_store [vR (some (1, 0)), vI x1] (hp σ) (fun x h' => x = some (vI r) ∧ h' = hp σ') :=
  m_of (j := 0) (by decide) rfl (fun hh => by cases hh) ⟨fun _ _ => trivial, rfl⟩ (le_b rfl) (qG_store hk ⟨rfl, rfl⟩)
theorem qG_door {σ : Mem} {x1 : Int32} {res : Int32 × Mem} (hk : kG_door σ x1 = some res) (hP : Po (some (vI res.1)) (hp res.2)) : J l D dA H0 YG_door h0 Po 0 0 (hp σ) 0 [some (vR (some (1, 0))), some (vI x1)] [] := by
  unfold kG_door at hk
  refine j_aload_n (pc' := 1) rfl rfl dX8_door_0 ?_
  refine j_getf (pc' := 4) fg_RX8_10 (hp_e rfl) rfl rfl dX8_door_1 ?_
  refine j_iload_n (pc' := 5) rfl rfl dX8_door_4 ?_
  obtain ⟨⟨r1, σ2⟩, hx, hk⟩ := of_bind hk
  refine j_cv1 (pc' := 8) (LH_join hx) cv_RX8_68 ⟨le_b rfl, le_b rfl⟩ (hp_e rfl) rfl rfl (le_b rfl) ⟨rfl, rfl⟩ ⟨le_b rfl, le_b rfl⟩ rfl rfl dX8_door_5 ?_
  refine j_if_ne (pc' := 11) (tg := 13) rfl rfl dX8_door_8 (fun c5 => ?_) (fun c5 => ?_)
  · have hk := (if_neg c5).symm.trans hk
    refine j_aload_n (pc' := 14) rfl rfl dX8_door_13 ?_
    refine j_iconst (pc' := 15) (v := 0) rfl rfl dX8_door_14 ?_
    obtain ⟨⟨_, σ4⟩, hx, hk⟩ := of_bind hk
    refine j_cv0 (pc' := 18) (LG_replanFrom hx) cv_RX8_61 ⟨le_b rfl, le_b rfl⟩ (hp_e rfl) rfl rfl (le_b rfl) ⟨rfl, rfl⟩ ⟨le_b rfl, le_b rfl⟩ rfl rfl dX8_door_15 ?_
    refine j_iconst (pc' := 19) (v := 1) rfl rfl dX8_door_18 ?_
    obtain rfl := Option.some.inj hk
    exact j_zret rfl rfl ⟨rfl, rfl⟩ dX8_door_19 hP
  · have hk := (if_pos c5).symm.trans hk
    refine j_iconst (pc' := 12) (v := 0) rfl rfl dX8_door_11 ?_
    obtain rfl := Option.some.inj hk
    exact j_zret rfl rfl ⟨rfl, rfl⟩ dX8_door_12 hP
theorem LG_door {σ σ' : Mem} {x1 : Int32} {r : Int32} (hk : kG_door σ x1 = some (r, σ')) : M l D dA H0 yX8_door YG_door [vR (some (1, 0)), vI x1] (hp σ) (fun x h' => x = some (vI r) ∧ h' = hp σ') :=
  m_of (j := 0) (by decide) rfl (fun hh => by cases hh) ⟨fun _ _ => trivial, rfl⟩ (le_b rfl) (qG_door hk ⟨rfl, rfl⟩)
theorem qG_shut {σ : Mem} {x1 : Int32} {x2 : Int32} {x3 : Int32} {x4 : Int32} {o5 : Option AV} {res : Int32 × Mem} (hk : kG_shut σ x1 x2 x3 x4 = some res) (hP : Po (some (vI res.1)) (hp res.2)) : J l D dA H0 YG_shut h0 Po 0 0 (hp σ) 0 [some (vR (some (1, 0))), some (vI x1), some (vI x2), some (vI x3), some (vI x4), o5] [] := by
  unfold kG_shut at hk
  refine j_aload_n (pc' := 1) rfl rfl dX8_shut_0 ?_
  refine j_getf (pc' := 4) fg_RX8_10 (hp_e rfl) rfl rfl dX8_shut_1 ?_
  refine j_iload_n (pc' := 5) rfl rfl dX8_shut_4 ?_
  obtain ⟨⟨r1, σ2⟩, hx, hk⟩ := of_bind hk
  refine j_cv1 (pc' := 8) (LH_roomAt hx) cv_RX8_71 ⟨le_b rfl, le_b rfl⟩ (hp_e rfl) rfl rfl (le_b rfl) ⟨rfl, rfl⟩ ⟨le_b rfl, le_b rfl⟩ rfl rfl dX8_shut_5 ?_
  refine j_astore (pc' := 10) (lt_b rfl) rfl rfl dX8_shut_8 ?_
  refine j_aload (pc' := 12) rfl rfl dX8_shut_10 ?_
  rcases of_elim hk with ⟨hr, hk⟩ | ⟨j3, hr, hk⟩
  · subst hr
    refine j_ifnull (pc' := 15) (tg := 31) rfl rfl dX8_shut_12 (fun _ => ?_) (fun _ hh => by cases hh)
    refine j_iconst (pc' := 32) (v := (-1)) rfl rfl dX8_shut_31 ?_
    obtain rfl := Option.some.inj hk
    exact j_iret rfl ⟨rfl, rfl⟩ dX8_shut_32 hP
  · subst hr
    refine j_ifnull (pc' := 15) (tg := 31) rfl rfl dX8_shut_12 (fun hh => by cases hh) (fun _ _ => ?_)
    refine j_aload (pc' := 17) rfl rfl dX8_shut_15 ?_
    refine j_getf (pc' := 20) fg_RX8_75 (hp_e rfl) rfl rfl dX8_shut_17 ?_
    refine j_if_ne (pc' := 23) (tg := 31) rfl rfl dX8_shut_20 (fun c11 => ?_) (fun c11 => ?_)
    · have hk := (if_neg c11).symm.trans hk
      refine j_iconst (pc' := 32) (v := (-1)) rfl rfl dX8_shut_31 ?_
      obtain rfl := Option.some.inj hk
      exact j_iret rfl ⟨rfl, rfl⟩ dX8_shut_32 hP
    · have hk := (if_pos c11).symm.trans hk
      refine j_iload_n (pc' := 24) rfl rfl dX8_shut_23 ?_
      refine j_iload_n (pc' := 25) rfl rfl dX8_shut_24 ?_
      obtain ⟨⟨r4, σ5⟩, hx, hk⟩ := of_bind hk
      refine j_cs1 (pc' := 28) (LG_isSpan hx) cs_RX8_79 ⟨le_b rfl, le_b rfl⟩ rfl (le_b rfl) ⟨rfl, rfl⟩ ⟨le_b rfl, le_b rfl⟩ rfl rfl dX8_shut_25 ?_
      refine j_if_ne (pc' := 31) (tg := 33) rfl rfl dX8_shut_28 (fun c10 => ?_) (fun c10 => ?_)
      · have hk := (if_neg c10).symm.trans hk
        refine j_aload_n (pc' := 34) rfl rfl dX8_shut_33 ?_
        refine j_iload_n (pc' := 35) rfl rfl dX8_shut_34 ?_
        obtain ⟨⟨_, σ7⟩, hx, hk⟩ := of_bind hk
        refine j_cv0 (pc' := 38) (LG_replanFrom hx) cv_RX8_61 ⟨le_b rfl, le_b rfl⟩ (hp_e rfl) rfl rfl (le_b rfl) ⟨rfl, rfl⟩ ⟨le_b rfl, le_b rfl⟩ rfl rfl dX8_shut_35 ?_
        refine j_aload (pc' := 40) rfl rfl dX8_shut_38 ?_
        refine j_iload_n (pc' := 41) rfl rfl dX8_shut_40 ?_
        refine j_iload_n (pc' := 42) rfl rfl dX8_shut_41 ?_
        refine j_iload (pc' := 44) rfl rfl dX8_shut_42 ?_
        obtain ⟨⟨r8, σ9⟩, hx, hk⟩ := of_bind hk
        refine j_cv1 (pc' := 47) (LR_setShut hx) cv_RX8_83 ⟨le_b rfl, le_b rfl⟩ (hp_e rfl) rfl rfl (le_b rfl) ⟨rfl, rfl⟩ ⟨le_b rfl, le_b rfl⟩ rfl rfl dX8_shut_44 ?_
        obtain rfl := Option.some.inj hk
        exact j_iret rfl ⟨rfl, rfl⟩ dX8_shut_47 hP
      · have hk := (if_pos c10).symm.trans hk
        refine j_iconst (pc' := 32) (v := (-1)) rfl rfl dX8_shut_31 ?_
        obtain rfl := Option.some.inj hk
        exact j_iret rfl ⟨rfl, rfl⟩ dX8_shut_32 hP
theorem LG_shut {σ σ' : Mem} {x1 : Int32} {x2 : Int32} {x3 : Int32} {x4 : Int32} {r : Int32} (hk : kG_shut σ x1 x2 x3 x4 = some (r, σ')) : M l D dA H0 yX8_shut YG_shut [vR (some (1, 0)), vI x1, vI x2, vI x3, vI x4] (hp σ) (fun x h' => x = some (vI r) ∧ h' = hp σ') :=
  m_of (j := 1) (by decide) rfl (fun hh => by cases hh) ⟨fun _ _ => trivial, rfl⟩ (le_b rfl) (qG_shut hk ⟨rfl, rfl⟩)
theorem qG_open {σ : Mem} {x1 : Int32} {x2 : Int32} {o3 : Option AV} {res : Int32 × Mem} (hk : kG_open σ x1 x2 = some res) (hP : Po (some (vI res.1)) (hp res.2)) : J l D dA H0 YG_open h0 Po 0 0 (hp σ) 0 [some (vR (some (1, 0))), some (vI x1), some (vI x2), o3] [] := by
  unfold kG_open at hk
  refine j_aload_n (pc' := 1) rfl rfl dX8_open_0 ?_
  refine j_getf (pc' := 4) fg_RX8_10 (hp_e rfl) rfl rfl dX8_open_1 ?_
  refine j_iload_n (pc' := 5) rfl rfl dX8_open_4 ?_
  obtain ⟨⟨r1, σ2⟩, hx, hk⟩ := of_bind hk
  refine j_cv1 (pc' := 8) (LH_roomAt hx) cv_RX8_71 ⟨le_b rfl, le_b rfl⟩ (hp_e rfl) rfl rfl (le_b rfl) ⟨rfl, rfl⟩ ⟨le_b rfl, le_b rfl⟩ rfl rfl dX8_open_5 ?_
  refine j_astore_n (pc' := 9) (lt_b rfl) rfl rfl dX8_open_8 ?_
  refine j_aload_n (pc' := 10) rfl rfl dX8_open_9 ?_
  rcases of_elim hk with ⟨hr, hk⟩ | ⟨j3, hr, hk⟩
  · subst hr
    refine j_ifnonnull (pc' := 13) (tg := 15) rfl rfl dX8_open_10 (fun _ hh => by cases hh) (fun _ => ?_)
    refine j_iconst (pc' := 14) (v := (-1)) rfl rfl dX8_open_13 ?_
    obtain rfl := Option.some.inj hk
    exact j_iret rfl ⟨rfl, rfl⟩ dX8_open_14 hP
  · subst hr
    refine j_ifnonnull (pc' := 13) (tg := 15) rfl rfl dX8_open_10 (fun _ _ => ?_) (fun hh => by cases hh)
    refine j_aload_n (pc' := 16) rfl rfl dX8_open_15 ?_
    refine j_iconst (pc' := 17) (v := 0) rfl rfl dX8_open_16 ?_
    obtain ⟨⟨_, σ5⟩, hx, hk⟩ := of_bind hk
    refine j_cv0 (pc' := 20) (LG_replanFrom hx) cv_RX8_61 ⟨le_b rfl, le_b rfl⟩ (hp_e rfl) rfl rfl (le_b rfl) ⟨rfl, rfl⟩ ⟨le_b rfl, le_b rfl⟩ rfl rfl dX8_open_17 ?_
    refine j_aload_n (pc' := 21) rfl rfl dX8_open_20 ?_
    refine j_iload_n (pc' := 22) rfl rfl dX8_open_21 ?_
    obtain ⟨⟨r6, σ7⟩, hx, hk⟩ := of_bind hk
    refine j_cv1 (pc' := 25) (LR_lengthen hx) cv_RX8_87 ⟨le_b rfl, le_b rfl⟩ (hp_e rfl) rfl rfl (le_b rfl) ⟨rfl, rfl⟩ ⟨le_b rfl, le_b rfl⟩ rfl rfl dX8_open_22 ?_
    obtain rfl := Option.some.inj hk
    exact j_iret rfl ⟨rfl, rfl⟩ dX8_open_25 hP
theorem LG_open {σ σ' : Mem} {x1 : Int32} {x2 : Int32} {r : Int32} (hk : kG_open σ x1 x2 = some (r, σ')) : M l D dA H0 yX8_open YG_open [vR (some (1, 0)), vI x1, vI x2] (hp σ) (fun x h' => x = some (vI r) ∧ h' = hp σ') :=
  m_of (j := 1) (by decide) rfl (fun hh => by cases hh) ⟨fun _ _ => trivial, rfl⟩ (le_b rfl) (qG_open hk ⟨rfl, rfl⟩)
theorem qG_close {σ : Mem} {x1 : Int32} {o2 : Option AV} {res : Int32 × Mem} (hk : kG_close σ x1 = some res) (hP : Po (some (vI res.1)) (hp res.2)) : J l D dA H0 YG_close h0 Po 0 0 (hp σ) 0 [some (vR (some (1, 0))), some (vI x1), o2] [] := by
  unfold kG_close at hk
  refine j_aload_n (pc' := 1) rfl rfl dX8_close_0 ?_
  refine j_getf (pc' := 4) fg_RX8_10 (hp_e rfl) rfl rfl dX8_close_1 ?_
  refine j_iload_n (pc' := 5) rfl rfl dX8_close_4 ?_
  obtain ⟨⟨r1, σ2⟩, hx, hk⟩ := of_bind hk
  refine j_cv1 (pc' := 8) (LH_roomAt hx) cv_RX8_71 ⟨le_b rfl, le_b rfl⟩ (hp_e rfl) rfl rfl (le_b rfl) ⟨rfl, rfl⟩ ⟨le_b rfl, le_b rfl⟩ rfl rfl dX8_close_5 ?_
  refine j_astore_n (pc' := 9) (lt_b rfl) rfl rfl dX8_close_8 ?_
  refine j_aload_n (pc' := 10) rfl rfl dX8_close_9 ?_
  rcases of_elim hk with ⟨hr, hk⟩ | ⟨j3, hr, hk⟩
  · subst hr
    refine j_ifnull (pc' := 13) (tg := 20) rfl rfl dX8_close_10 (fun _ => ?_) (fun _ hh => by cases hh)
    refine j_iconst (pc' := 21) (v := 0) rfl rfl dX8_close_20 ?_
    obtain rfl := Option.some.inj hk
    exact j_zret rfl rfl ⟨rfl, rfl⟩ dX8_close_21 hP
  · subst hr
    refine j_ifnull (pc' := 13) (tg := 20) rfl rfl dX8_close_10 (fun hh => by cases hh) (fun _ _ => ?_)
    refine j_aload_n (pc' := 14) rfl rfl dX8_close_13 ?_
    refine j_getf (pc' := 17) fg_RX8_75 (hp_e rfl) rfl rfl dX8_close_14 ?_
    refine j_if_eq (pc' := 20) (tg := 22) rfl rfl dX8_close_17 (fun c8 => ?_) (fun c8 => ?_)
    · have hk := (if_pos c8).symm.trans hk
      refine j_aload_n (pc' := 23) rfl rfl dX8_close_22 ?_
      obtain ⟨⟨_, σ5⟩, hx, hk⟩ := of_bind hk
      refine j_cv0 (pc' := 26) (LR_closeAltogether hx) cv_RX8_91 ⟨le_b rfl, le_b rfl⟩ (hp_e rfl) rfl rfl (le_b rfl) ⟨rfl, rfl⟩ ⟨le_b rfl, le_b rfl⟩ rfl rfl dX8_close_23 ?_
      refine j_aload_n (pc' := 27) rfl rfl dX8_close_26 ?_
      refine j_iconst (pc' := 28) (v := 0) rfl rfl dX8_close_27 ?_
      obtain ⟨⟨_, σ7⟩, hx, hk⟩ := of_bind hk
      refine j_cv0 (pc' := 31) (LG_replanFrom hx) cv_RX8_61 ⟨le_b rfl, le_b rfl⟩ (hp_e rfl) rfl rfl (le_b rfl) ⟨rfl, rfl⟩ ⟨le_b rfl, le_b rfl⟩ rfl rfl dX8_close_28 ?_
      refine j_iconst (pc' := 32) (v := 1) rfl rfl dX8_close_31 ?_
      obtain rfl := Option.some.inj hk
      exact j_zret rfl rfl ⟨rfl, rfl⟩ dX8_close_32 hP
    · have hk := (if_neg c8).symm.trans hk
      refine j_iconst (pc' := 21) (v := 0) rfl rfl dX8_close_20 ?_
      obtain rfl := Option.some.inj hk
      exact j_zret rfl rfl ⟨rfl, rfl⟩ dX8_close_21 hP
theorem LG_close {σ σ' : Mem} {x1 : Int32} {r : Int32} (hk : kG_close σ x1 = some (r, σ')) : M l D dA H0 yX8_close YG_close [vR (some (1, 0)), vI x1] (hp σ) (fun x h' => x = some (vI r) ∧ h' = hp σ') :=
  m_of (j := 1) (by decide) rfl (fun hh => by cases hh) ⟨fun _ _ => trivial, rfl⟩ (le_b rfl) (qG_close hk ⟨rfl, rfl⟩)
theorem qG_look {σ : Mem} {x1 : Int32} {x2 : Int32} {o3 : Option AV} {res : Int32 × Mem} (hk : kG_look σ x1 x2 = some res) (hP : Po (some (vI res.1)) (hp res.2)) : J l D dA H0 YG_look h0 Po 0 0 (hp σ) 0 [some (vR (some (1, 0))), some (vI x1), some (vI x2), o3] [] := by
  unfold kG_look at hk
  refine j_iload_n (pc' := 1) rfl rfl dX8_look_0 ?_
  obtain ⟨⟨r1, σ2⟩, hx, hk⟩ := of_bind hk
  refine j_cs1 (pc' := 4) (LG_isPlace hx) cs_RX8_94 ⟨le_b rfl, le_b rfl⟩ rfl (le_b rfl) ⟨rfl, rfl⟩ ⟨le_b rfl, le_b rfl⟩ rfl rfl dX8_look_1 ?_
  refine j_if_ne (pc' := 7) (tg := 10) rfl rfl dX8_look_4 (fun c9 => ?_) (fun c9 => ?_)
  · have hk := (if_neg c9).symm.trans hk
    refine j_aload_n (pc' := 11) rfl rfl dX8_look_10 ?_
    refine j_getf (pc' := 14) fg_RX8_10 (hp_e rfl) rfl rfl dX8_look_11 ?_
    refine j_iload_n (pc' := 15) rfl rfl dX8_look_14 ?_
    obtain ⟨⟨r3, σ4⟩, hx, hk⟩ := of_bind hk
    refine j_cv1 (pc' := 18) (LH_roomAt hx) cv_RX8_71 ⟨le_b rfl, le_b rfl⟩ (hp_e rfl) rfl rfl (le_b rfl) ⟨rfl, rfl⟩ ⟨le_b rfl, le_b rfl⟩ rfl rfl dX8_look_15 ?_
    refine j_astore_n (pc' := 19) (lt_b rfl) rfl rfl dX8_look_18 ?_
    refine j_iload_n (pc' := 20) rfl rfl dX8_look_19 ?_
    refine j_if_ne (pc' := 23) (tg := 32) rfl rfl dX8_look_20 (fun c8 => ?_) (fun c8 => ?_)
    · have hk := (if_neg c8).symm.trans hk
      refine j_aload_n (pc' := 33) rfl rfl dX8_look_32 ?_
      rcases of_elim hk with ⟨hr, hk⟩ | ⟨j5, hr, hk⟩
      · subst hr
        refine j_ifnonnull (pc' := 36) (tg := 38) rfl rfl dX8_look_33 (fun _ hh => by cases hh) (fun _ => ?_)
        refine j_iconst (pc' := 37) (v := (-1)) rfl rfl dX8_look_36 ?_
        obtain rfl := Option.some.inj hk
        exact j_iret rfl ⟨rfl, rfl⟩ dX8_look_37 hP
      · subst hr
        refine j_ifnonnull (pc' := 36) (tg := 38) rfl rfl dX8_look_33 (fun _ _ => ?_) (fun hh => by cases hh)
        refine j_iload_n (pc' := 39) rfl rfl dX8_look_38 ?_
        by_cases cw1 : x2 = 1
        · have hk := (if_pos cw1).symm.trans hk
          refine j_tin (off := 25) (tg := 64) cw1 (by decide) dX8_look_39 ?_
          refine j_aload_n (pc' := 65) rfl rfl dX8_look_64 ?_
          refine j_getf (pc' := 68) fg_RX8_100 (hp_e rfl) rfl rfl dX8_look_65 ?_
          obtain rfl := Option.some.inj hk
          exact j_iret rfl ⟨rfl, rfl⟩ dX8_look_68 hP
        have hk := (if_neg cw1).symm.trans hk
        by_cases cw2 : x2 = 2
        · have hk := (if_pos cw2).symm.trans hk
          refine j_tin (off := 30) (tg := 69) cw2 (by decide) dX8_look_39 ?_
          refine j_aload_n (pc' := 70) rfl rfl dX8_look_69 ?_
          refine j_getf (pc' := 73) fg_RX8_104 (hp_e rfl) rfl rfl dX8_look_70 ?_
          obtain rfl := Option.some.inj hk
          exact j_iret rfl ⟨rfl, rfl⟩ dX8_look_73 hP
        have hk := (if_neg cw2).symm.trans hk
        by_cases cw3 : x2 = 3
        · have hk := (if_pos cw3).symm.trans hk
          refine j_tin (off := 35) (tg := 74) cw3 (by decide) dX8_look_39 ?_
          refine j_aload_n (pc' := 75) rfl rfl dX8_look_74 ?_
          refine j_getf (pc' := 78) fg_RX8_107 (hp_e rfl) rfl rfl dX8_look_75 ?_
          obtain rfl := Option.some.inj hk
          exact j_iret rfl ⟨rfl, rfl⟩ dX8_look_78 hP
        have hk := (if_neg cw3).symm.trans hk
        refine j_tout (tg := 79) (by have h0 : _ ≠ (1 : Int) := i32ne cw1; have h1 : _ ≠ (2 : Int) := i32ne cw2; have h2 : _ ≠ (3 : Int) := i32ne cw3; omega) rfl dX8_look_39 ?_
        refine j_iconst (pc' := 80) (v := (-1)) rfl rfl dX8_look_79 ?_
        obtain rfl := Option.some.inj hk
        exact j_iret rfl ⟨rfl, rfl⟩ dX8_look_80 hP
    · have hk := (if_pos c8).symm.trans hk
      refine j_aload_n (pc' := 24) rfl rfl dX8_look_23 ?_
      refine j_getf (pc' := 27) fg_RX8_10 (hp_e rfl) rfl rfl dX8_look_24 ?_
      refine j_iload_n (pc' := 28) rfl rfl dX8_look_27 ?_
      obtain ⟨⟨r6, σ7⟩, hx, hk⟩ := of_bind hk
      refine j_cv1 (pc' := 31) (LH_kindAt hx) cv_RX8_97 ⟨le_b rfl, le_b rfl⟩ (hp_e rfl) rfl rfl (le_b rfl) ⟨rfl, rfl⟩ ⟨le_b rfl, le_b rfl⟩ rfl rfl dX8_look_28 ?_
      obtain rfl := Option.some.inj hk
      exact j_iret rfl ⟨rfl, rfl⟩ dX8_look_31 hP
  · have hk := (if_pos c9).symm.trans hk
    refine j_bipush (pc' := 9) (v := (-2)) rfl rfl dX8_look_7 ?_
    obtain rfl := Option.some.inj hk
    exact j_iret rfl ⟨rfl, rfl⟩ dX8_look_9 hP
theorem LG_look {σ σ' : Mem} {x1 : Int32} {x2 : Int32} {r : Int32} (hk : kG_look σ x1 x2 = some (r, σ')) : M l D dA H0 yX8_look YG_look [vR (some (1, 0)), vI x1, vI x2] (hp σ) (fun x h' => x = some (vI r) ∧ h' = hp σ') :=
  m_of (j := 1) (by decide) rfl (fun hh => by cases hh) ⟨fun _ _ => trivial, rfl⟩ (le_b rfl) (qG_look hk ⟨rfl, rfl⟩)
theorem qG_night {σ : Mem} {x1 : Int32} {x2 : Int32} {o3 : Option AV} {res : Int32 × Mem} (hk : kG_night σ x1 x2 = some res) (hP : Po (some (vI res.1)) (hp res.2)) : J l D dA H0 YG_night h0 Po 0 0 (hp σ) 0 [some (vR (some (1, 0))), some (vI x1), some (vI x2), o3] [] := by
  unfold kG_night at hk
  refine j_iload_n (pc' := 1) rfl rfl dX8_night_0 ?_
  obtain ⟨⟨r1, σ2⟩, hx, hk⟩ := of_bind hk
  refine j_cs1 (pc' := 4) (LG_isNight hx) cs_RX8_110 ⟨le_b rfl, le_b rfl⟩ rfl (le_b rfl) ⟨rfl, rfl⟩ ⟨le_b rfl, le_b rfl⟩ rfl rfl dX8_night_1 ?_
  refine j_if_ne (pc' := 7) (tg := 10) rfl rfl dX8_night_4 (fun c8 => ?_) (fun c8 => ?_)
  · have hk := (if_neg c8).symm.trans hk
    refine j_aload_n (pc' := 11) rfl rfl dX8_night_10 ?_
    refine j_getf (pc' := 14) fg_RX8_10 (hp_e rfl) rfl rfl dX8_night_11 ?_
    refine j_iload_n (pc' := 15) rfl rfl dX8_night_14 ?_
    obtain ⟨⟨r3, σ4⟩, hx, hk⟩ := of_bind hk
    refine j_cv1 (pc' := 18) (LH_roomAt hx) cv_RX8_71 ⟨le_b rfl, le_b rfl⟩ (hp_e rfl) rfl rfl (le_b rfl) ⟨rfl, rfl⟩ ⟨le_b rfl, le_b rfl⟩ rfl rfl dX8_night_15 ?_
    refine j_astore_n (pc' := 19) (lt_b rfl) rfl rfl dX8_night_18 ?_
    refine j_aload_n (pc' := 20) rfl rfl dX8_night_19 ?_
    rcases of_elim hk with ⟨hr, hk⟩ | ⟨j5, hr, hk⟩
    · subst hr
      refine j_ifnonnull (pc' := 23) (tg := 28) rfl rfl dX8_night_20 (fun _ hh => by cases hh) (fun _ => ?_)
      refine j_bipush (pc' := 25) (v := (-3)) rfl rfl dX8_night_23 ?_
      refine j_goto (tg := 33) rfl dX8_night_25 ?_
      obtain rfl := Option.some.inj hk
      exact j_iret rfl ⟨rfl, rfl⟩ dX8_night_33 hP
    · subst hr
      refine j_ifnonnull (pc' := 23) (tg := 28) rfl rfl dX8_night_20 (fun _ _ => ?_) (fun hh => by cases hh)
      refine j_aload_n (pc' := 29) rfl rfl dX8_night_28 ?_
      refine j_iload_n (pc' := 30) rfl rfl dX8_night_29 ?_
      obtain ⟨⟨r6, σ7⟩, hx, hk⟩ := of_bind hk
      refine j_cv1 (pc' := 33) (LR_stateIn hx) cv_RX8_113 ⟨le_b rfl, le_b rfl⟩ (hp_e rfl) rfl rfl (le_b rfl) ⟨rfl, rfl⟩ ⟨le_b rfl, le_b rfl⟩ rfl rfl dX8_night_30 ?_
      obtain rfl := Option.some.inj hk
      exact j_iret rfl ⟨rfl, rfl⟩ dX8_night_33 hP
  · have hk := (if_pos c8).symm.trans hk
    refine j_bipush (pc' := 9) (v := (-4)) rfl rfl dX8_night_7 ?_
    obtain rfl := Option.some.inj hk
    exact j_iret rfl ⟨rfl, rfl⟩ dX8_night_9 hP
theorem LG_night {σ σ' : Mem} {x1 : Int32} {x2 : Int32} {r : Int32} (hk : kG_night σ x1 x2 = some (r, σ')) : M l D dA H0 yX8_night YG_night [vR (some (1, 0)), vI x1, vI x2] (hp σ) (fun x h' => x = some (vI r) ∧ h' = hp σ') :=
  m_of (j := 1) (by decide) rfl (fun hh => by cases hh) ⟨fun _ _ => trivial, rfl⟩ (le_b rfl) (qG_night hk ⟨rfl, rfl⟩)
theorem qG_isWish {σ : Mem} {x1 : Int32} {x2 : Int32} {x3 : Int32} {res : Int32 × Mem} (hk : kG_isWish σ x1 x2 x3 = some res) (hP : Po (some (vI res.1)) (hp res.2)) : J l D dA H0 YG_isWish h0 Po 0 0 (hp σ) 0 [some (vR (some (1, 0))), some (vI x1), some (vI x2), some (vI x3)] [] := by
  unfold kG_isWish at hk
  refine j_iload_n (pc' := 1) rfl rfl dX8_isWish_0 ?_
  obtain ⟨⟨r1, σ2⟩, hx, hk⟩ := of_bind hk
  refine j_cs1 (pc' := 4) (LG_isWant hx) cs_RX8_237 ⟨le_b rfl, le_b rfl⟩ rfl (le_b rfl) ⟨rfl, rfl⟩ ⟨le_b rfl, le_b rfl⟩ rfl rfl dX8_isWish_1 ?_
  refine j_if_eq (pc' := 7) (tg := 30) rfl rfl dX8_isWish_4 (fun c6 => ?_) (fun c6 => ?_)
  · have hk := (if_pos c6).symm.trans hk
    refine j_iconst (pc' := 31) (v := 0) rfl rfl dX8_isWish_30 ?_
    obtain rfl := Option.some.inj hk
    exact j_zret rfl rfl ⟨rfl, rfl⟩ dX8_isWish_31 hP
  · have hk := (if_neg c6).symm.trans hk
    refine j_iload_n (pc' := 8) rfl rfl dX8_isWish_7 ?_
    refine j_aload_n (pc' := 9) rfl rfl dX8_isWish_8 ?_
    refine j_getf (pc' := 12) fg_RX8_120 (hp_e rfl) rfl rfl dX8_isWish_9 ?_
    refine j_ic_lt (pc' := 15) (tg := 30) rfl rfl dX8_isWish_12 (fun c5 => ?_) (fun c5 => ?_)
    · have hk := (if_pos c5).symm.trans hk
      refine j_iconst (pc' := 31) (v := 0) rfl rfl dX8_isWish_30 ?_
      obtain rfl := Option.some.inj hk
      exact j_zret rfl rfl ⟨rfl, rfl⟩ dX8_isWish_31 hP
    · have hk := (if_neg c5).symm.trans hk
      refine j_iload_n (pc' := 16) rfl rfl dX8_isWish_15 ?_
      refine j_iload_n (pc' := 17) rfl rfl dX8_isWish_16 ?_
      refine j_ic_ge (pc' := 20) (tg := 30) rfl rfl dX8_isWish_17 (fun c4 => ?_) (fun c4 => ?_)
      · have hk := (if_pos c4).symm.trans hk
        refine j_iconst (pc' := 31) (v := 0) rfl rfl dX8_isWish_30 ?_
        obtain rfl := Option.some.inj hk
        exact j_zret rfl rfl ⟨rfl, rfl⟩ dX8_isWish_31 hP
      · have hk := (if_neg c4).symm.trans hk
        refine j_iload_n (pc' := 21) rfl rfl dX8_isWish_20 ?_
        refine j_bipush (pc' := 23) (v := 60) rfl rfl dX8_isWish_21 ?_
        refine j_ic_gt (pc' := 26) (tg := 30) rfl rfl dX8_isWish_23 (fun c3 => ?_) (fun c3 => ?_)
        · have hk := (if_pos c3).symm.trans hk
          refine j_iconst (pc' := 31) (v := 0) rfl rfl dX8_isWish_30 ?_
          obtain rfl := Option.some.inj hk
          exact j_zret rfl rfl ⟨rfl, rfl⟩ dX8_isWish_31 hP
        · have hk := (if_neg c3).symm.trans hk
          refine j_iconst (pc' := 27) (v := 1) rfl rfl dX8_isWish_26 ?_
          refine j_goto (tg := 31) rfl dX8_isWish_27 ?_
          obtain rfl := Option.some.inj hk
          exact j_zret rfl rfl ⟨rfl, rfl⟩ dX8_isWish_31 hP
theorem LG_isWish {σ σ' : Mem} {x1 : Int32} {x2 : Int32} {x3 : Int32} {r : Int32} (hk : kG_isWish σ x1 x2 x3 = some (r, σ')) : M l D dA H0 yX8_isWish YG_isWish [vR (some (1, 0)), vI x1, vI x2, vI x3] (hp σ) (fun x h' => x = some (vI r) ∧ h' = hp σ') :=
  m_of (j := 0) (by decide) rfl (fun hh => by cases hh) ⟨fun _ _ => trivial, rfl⟩ (le_b rfl) (qG_isWish hk ⟨rfl, rfl⟩)
theorem qG_mostPeople {σ : Mem} {x0 : Int32} {res : Int32 × Mem} (hk : kG_mostPeople σ x0 = some res) (hP : Po (some (vI res.1)) (hp res.2)) : J l D dA H0 YG_mostPeople h0 Po 0 0 (hp σ) 0 [some (vI x0)] [] := by
  unfold kG_mostPeople at hk
  refine j_iload_n (pc' := 1) rfl rfl dX8_mostPeople_0 ?_
  by_cases cw0 : x0 = 0
  · have hk := (if_pos cw0).symm.trans hk
    refine j_tin (off := 35) (tg := 36) cw0 (by decide) dX8_mostPeople_1 ?_
    refine j_iconst (pc' := 37) (v := 1) rfl rfl dX8_mostPeople_36 ?_
    obtain rfl := Option.some.inj hk
    exact j_iret rfl ⟨rfl, rfl⟩ dX8_mostPeople_37 hP
  have hk := (if_neg cw0).symm.trans hk
  by_cases cw1 : x0 = 1
  · have hk := (if_pos cw1).symm.trans hk
    refine j_tin (off := 35) (tg := 36) cw1 (by decide) dX8_mostPeople_1 ?_
    refine j_iconst (pc' := 37) (v := 1) rfl rfl dX8_mostPeople_36 ?_
    obtain rfl := Option.some.inj hk
    exact j_iret rfl ⟨rfl, rfl⟩ dX8_mostPeople_37 hP
  have hk := (if_neg cw1).symm.trans hk
  by_cases cw2 : x0 = 2
  · have hk := (if_pos cw2).symm.trans hk
    refine j_tin (off := 37) (tg := 38) cw2 (by decide) dX8_mostPeople_1 ?_
    refine j_iconst (pc' := 39) (v := 2) rfl rfl dX8_mostPeople_38 ?_
    obtain rfl := Option.some.inj hk
    exact j_iret rfl ⟨rfl, rfl⟩ dX8_mostPeople_39 hP
  have hk := (if_neg cw2).symm.trans hk
  by_cases cw3 : x0 = 3
  · have hk := (if_pos cw3).symm.trans hk
    refine j_tin (off := 37) (tg := 38) cw3 (by decide) dX8_mostPeople_1 ?_
    refine j_iconst (pc' := 39) (v := 2) rfl rfl dX8_mostPeople_38 ?_
    obtain rfl := Option.some.inj hk
    exact j_iret rfl ⟨rfl, rfl⟩ dX8_mostPeople_39 hP
  have hk := (if_neg cw3).symm.trans hk
  by_cases cw4 : x0 = 4
  · have hk := (if_pos cw4).symm.trans hk
    refine j_tin (off := 39) (tg := 40) cw4 (by decide) dX8_mostPeople_1 ?_
    refine j_iconst (pc' := 41) (v := 4) rfl rfl dX8_mostPeople_40 ?_
    obtain rfl := Option.some.inj hk
    exact j_iret rfl ⟨rfl, rfl⟩ dX8_mostPeople_41 hP
  have hk := (if_neg cw4).symm.trans hk
  refine j_tout (tg := 42) (by have h0 : _ ≠ (0 : Int) := i32ne cw0; have h1 : _ ≠ (1 : Int) := i32ne cw1; have h2 : _ ≠ (2 : Int) := i32ne cw2; have h3 : _ ≠ (3 : Int) := i32ne cw3; have h4 : _ ≠ (4 : Int) := i32ne cw4; omega) rfl dX8_mostPeople_1 ?_
  refine j_iconst (pc' := 43) (v := 0) rfl rfl dX8_mostPeople_42 ?_
  obtain rfl := Option.some.inj hk
  exact j_iret rfl ⟨rfl, rfl⟩ dX8_mostPeople_43 hP
theorem LG_mostPeople {σ σ' : Mem} {x0 : Int32} {r : Int32} (hk : kG_mostPeople σ x0 = some (r, σ')) : M l D dA H0 yX8_mostPeople YG_mostPeople [vI x0] (hp σ) (fun x h' => x = some (vI r) ∧ h' = hp σ') :=
  m_of (j := 0) (by decide) rfl (fun hh => by cases hh) ⟨fun _ _ => trivial, rfl⟩ (le_b rfl) (qG_mostPeople hk ⟨rfl, rfl⟩)
theorem qG_shortOf_s11 {σ : Mem} {x1 : Int32} {x2 : Int32} {x3 : Int32} {x4 : Int32} {o5 : Option AV} {out : (Int32 × Mem) ⊕ (Mem)} (hk : kG_shortOf_s11 x1 x2 x3 (x4, σ) = some out) (hc : ∀ (z4 : Int32) (ς : Mem), out = .inl (z4, ς) → ∀ (o5 : Option AV), J l D dA H0 YG_shortOf h0 Po 0 0 (hp ς) 11 [some (vR (some (1, 0))), some (vI x1), some (vI x2), some (vI x3), some (vI z4), o5] []) (hx0 : ∀ (ς : Mem), out = .inr ς → ∀ (o1 o3 o4 o5 : Option AV), J l D dA H0 YG_shortOf h0 Po 0 0 (hp ς) 80 [some (vR (some (1, 0))), o1, some (vI x2), o3, o4, o5] []) : J l D dA H0 YG_shortOf h0 Po 0 0 (hp σ) 11 [some (vR (some (1, 0))), some (vI x1), some (vI x2), some (vI x3), some (vI x4), o5] [] := by
  unfold kG_shortOf_s11 at hk
  refine j_iload (pc' := 13) rfl rfl dX8_shortOf_11 ?_
  refine j_aload_n (pc' := 14) rfl rfl dX8_shortOf_13 ?_
  refine j_getf (pc' := 17) fg_RX8_19 (hp_e rfl) rfl rfl dX8_shortOf_14 ?_
  refine j_getf (pc' := 20) fg_RX8_208 (hp_e rfl) rfl rfl dX8_shortOf_17 ?_
  refine j_ic_ge (pc' := 23) (tg := 80) rfl rfl dX8_shortOf_20 (fun c15 => ?_) (fun c15 => ?_)
  · have hk := (if_pos c15).symm.trans hk
    obtain rfl := Option.some.inj hk
    exact hx0 _ rfl _ _ _ _
  · have hk := (if_neg c15).symm.trans hk
    refine j_aload_n (pc' := 24) rfl rfl dX8_shortOf_23 ?_
    refine j_getf (pc' := 27) fg_RX8_19 (hp_e rfl) rfl rfl dX8_shortOf_24 ?_
    refine j_iload (pc' := 29) rfl rfl dX8_shortOf_27 ?_
    obtain ⟨⟨r3, σ4⟩, hx, hk⟩ := of_bind hk
    refine j_cv1 (pc' := 32) (LB_at hx) cv_RX8_140 ⟨le_b rfl, le_b rfl⟩ (hp_e rfl) rfl rfl (le_b rfl) ⟨rfl, rfl⟩ ⟨le_b rfl, le_b rfl⟩ rfl rfl dX8_shortOf_29 ?_
    refine j_astore (pc' := 34) (lt_b rfl) rfl rfl dX8_shortOf_32 ?_
    refine j_aload (pc' := 36) rfl rfl dX8_shortOf_34 ?_
    rcases of_elim hk with ⟨hr, hk⟩ | ⟨j5, hr, hk⟩
    · subst hr
      refine j_ifnull (pc' := 39) (tg := 74) rfl rfl dX8_shortOf_36 (fun _ => ?_) (fun _ hh => by cases hh)
      refine j_iinc (pc' := 77) (v := x4 + 1) rfl rfl (lt_b rfl) rfl rfl dX8_shortOf_74 ?_
      refine j_goto (tg := 11) rfl dX8_shortOf_77 ?_
      obtain rfl := Option.some.inj hk
      exact hc _ _ rfl _
    · subst hr
      refine j_ifnull (pc' := 39) (tg := 74) rfl rfl dX8_shortOf_36 (fun hh => by cases hh) (fun _ _ => ?_)
      refine j_iload (pc' := 41) rfl rfl dX8_shortOf_39 ?_
      refine j_iload_n (pc' := 42) rfl rfl dX8_shortOf_41 ?_
      refine j_ic_eq (pc' := 45) (tg := 74) rfl rfl dX8_shortOf_42 (fun c14 => ?_) (fun c14 => ?_)
      · have hk := (if_pos c14).symm.trans hk
        refine j_iinc (pc' := 77) (v := x4 + 1) rfl rfl (lt_b rfl) rfl rfl dX8_shortOf_74 ?_
        refine j_goto (tg := 11) rfl dX8_shortOf_77 ?_
        obtain rfl := Option.some.inj hk
        exact hc _ _ rfl _
      · have hk := (if_neg c14).symm.trans hk
        refine j_aload (pc' := 47) rfl rfl dX8_shortOf_45 ?_
        obtain ⟨⟨r6, σ7⟩, hx, hk⟩ := of_bind hk
        refine j_cv1 (pc' := 50) (LQ_stands hx) cv_RX8_288 ⟨le_b rfl, le_b rfl⟩ (hp_e rfl) rfl rfl (le_b rfl) ⟨rfl, rfl⟩ ⟨le_b rfl, le_b rfl⟩ rfl rfl dX8_shortOf_47 ?_
        refine j_if_eq (pc' := 53) (tg := 74) rfl rfl dX8_shortOf_50 (fun c13 => ?_) (fun c13 => ?_)
        · have hk := (if_pos c13).symm.trans hk
          refine j_iinc (pc' := 77) (v := x4 + 1) rfl rfl (lt_b rfl) rfl rfl dX8_shortOf_74 ?_
          refine j_goto (tg := 11) rfl dX8_shortOf_77 ?_
          obtain rfl := Option.some.inj hk
          exact hc _ _ rfl _
        · have hk := (if_neg c13).symm.trans hk
          refine j_aload (pc' := 55) rfl rfl dX8_shortOf_53 ?_
          refine j_iload_n (pc' := 56) rfl rfl dX8_shortOf_55 ?_
          obtain ⟨⟨r8, σ9⟩, hx, hk⟩ := of_bind hk
          refine j_cv1 (pc' := 59) (LQ_covers hx) cv_RX8_291 ⟨le_b rfl, le_b rfl⟩ (hp_e rfl) rfl rfl (le_b rfl) ⟨rfl, rfl⟩ ⟨le_b rfl, le_b rfl⟩ rfl rfl dX8_shortOf_56 ?_
          refine j_if_eq (pc' := 62) (tg := 74) rfl rfl dX8_shortOf_59 (fun c12 => ?_) (fun c12 => ?_)
          · have hk := (if_pos c12).symm.trans hk
            refine j_iinc (pc' := 77) (v := x4 + 1) rfl rfl (lt_b rfl) rfl rfl dX8_shortOf_74 ?_
            refine j_goto (tg := 11) rfl dX8_shortOf_77 ?_
            obtain rfl := Option.some.inj hk
            exact hc _ _ rfl _
          · have hk := (if_neg c12).symm.trans hk
            refine j_aload_n (pc' := 63) rfl rfl dX8_shortOf_62 ?_
            refine j_getf (pc' := 66) fg_RX8_28 (hp_e rfl) rfl rfl dX8_shortOf_63 ?_
            refine j_aload (pc' := 68) rfl rfl dX8_shortOf_66 ?_
            refine j_getf (pc' := 71) fg_RX8_155 (hp_e rfl) rfl rfl dX8_shortOf_68 ?_
            obtain ⟨⟨_, σ11⟩, hx, hk⟩ := of_bind hk
            refine j_cv0 (pc' := 74) (LV_addNeed hx) cv_RX8_294 ⟨le_b rfl, le_b rfl⟩ (hp_e rfl) rfl rfl (le_b rfl) ⟨rfl, rfl⟩ ⟨le_b rfl, le_b rfl⟩ rfl rfl dX8_shortOf_71 ?_
            refine j_iinc (pc' := 77) (v := x4 + 1) rfl rfl (lt_b rfl) rfl rfl dX8_shortOf_74 ?_
            refine j_goto (tg := 11) rfl dX8_shortOf_77 ?_
            obtain rfl := Option.some.inj hk
            exact hc _ _ rfl _
theorem lG_shortOf_s11 {x1 : Int32} {x2 : Int32} {x3 : Int32} : ∀ (n : Nat) (x4 : Int32) (σ : Mem) (e : (Mem)), loopF n (kG_shortOf_s11 x1 x2 x3) (x4, σ) = some e → (∀ (ς : Mem), e = ς → ∀ (o1 o3 o4 o5 : Option AV), J l D dA H0 YG_shortOf h0 Po 0 0 (hp ς) 80 [some (vR (some (1, 0))), o1, some (vI x2), o3, o4, o5] []) → ∀ (o5 : Option AV), J l D dA H0 YG_shortOf h0 Po 0 0 (hp σ) 11 [some (vR (some (1, 0))), some (vI x1), some (vI x2), some (vI x3), some (vI x4), o5] []
  | 0, x4, σ, e, he => by cases he
  | n + 1, x4, σ, e, he => by
    intro hx0 o5
    rcases loopF_succ he with ⟨s', h1, h2⟩ | h1
    · refine qG_shortOf_s11 h1 ?_ ?_
      · intro z4 ς ee
        cases ee
        exact lG_shortOf_s11 n z4 ς e h2 hx0
      · intro ς ee
        cases ee
    · refine qG_shortOf_s11 h1 ?_ ?_
      · intro z4 ς ee
        cases ee
      · intro ς ee
        exact hx0 ς (Sum.inr.inj ee)
theorem qG_shortOf_x80 {σ : Mem} {x2 : Int32} {o1 : Option AV} {o3 : Option AV} {o4 : Option AV} {o5 : Option AV} {res : Int32 × Mem} (hk : kG_shortOf_x80 σ x2 = some res) (hP : Po (some (vI res.1)) (hp res.2)) : J l D dA H0 YG_shortOf h0 Po 0 0 (hp σ) 80 [some (vR (some (1, 0))), o1, some (vI x2), o3, o4, o5] [] := by
  unfold kG_shortOf_x80 at hk
  refine j_aload_n (pc' := 81) rfl rfl dX8_shortOf_80 ?_
  refine j_getf (pc' := 84) fg_RX8_28 (hp_e rfl) rfl rfl dX8_shortOf_81 ?_
  refine j_iload_n (pc' := 85) rfl rfl dX8_shortOf_84 ?_
  obtain ⟨⟨_, σ17⟩, hx, hk⟩ := of_bind hk
  refine j_cv0 (pc' := 88) (LV_addNeed hx) cv_RX8_294 ⟨le_b rfl, le_b rfl⟩ (hp_e rfl) rfl rfl (le_b rfl) ⟨rfl, rfl⟩ ⟨le_b rfl, le_b rfl⟩ rfl rfl dX8_shortOf_85 ?_
  refine j_aload_n (pc' := 89) rfl rfl dX8_shortOf_88 ?_
  refine j_getf (pc' := 92) fg_RX8_28 (hp_e rfl) rfl rfl dX8_shortOf_89 ?_
  obtain ⟨⟨r18, σ19⟩, hx, hk⟩ := of_bind hk
  refine j_cv1 (pc' := 95) (LV_shortage hx) cv_RX8_297 ⟨le_b rfl, le_b rfl⟩ (hp_e rfl) rfl rfl (le_b rfl) ⟨rfl, rfl⟩ ⟨le_b rfl, le_b rfl⟩ rfl rfl dX8_shortOf_92 ?_
  obtain rfl := Option.some.inj hk
  exact j_iret rfl ⟨rfl, rfl⟩ dX8_shortOf_95 hP
theorem qG_shortOf {σ : Mem} {x1 : Int32} {x2 : Int32} {x3 : Int32} {o4 : Option AV} {o5 : Option AV} {res : Int32 × Mem} (hk : kG_shortOf σ x1 x2 x3 = some res) (hP : Po (some (vI res.1)) (hp res.2)) : J l D dA H0 YG_shortOf h0 Po 0 0 (hp σ) 0 [some (vR (some (1, 0))), some (vI x1), some (vI x2), some (vI x3), o4, o5] [] := by
  unfold kG_shortOf at hk
  refine j_aload_n (pc' := 1) rfl rfl dX8_shortOf_0 ?_
  refine j_getf (pc' := 4) fg_RX8_28 (hp_e rfl) rfl rfl dX8_shortOf_1 ?_
  refine j_iload_n (pc' := 5) rfl rfl dX8_shortOf_4 ?_
  obtain ⟨⟨_, σ2⟩, hx, hk⟩ := of_bind hk
  refine j_cv0 (pc' := 8) (LV_begin hx) cv_RX8_285 ⟨le_b rfl, le_b rfl⟩ (hp_e rfl) rfl rfl (le_b rfl) ⟨rfl, rfl⟩ ⟨le_b rfl, le_b rfl⟩ rfl rfl dX8_shortOf_5 ?_
  refine j_iconst (pc' := 9) (v := 0) rfl rfl dX8_shortOf_8 ?_
  refine j_istore (pc' := 11) (lt_b rfl) rfl rfl dX8_shortOf_9 ?_
  obtain ⟨e, he, hk⟩ := of_bind hk
  refine lG_shortOf_s11 FU _ _ e he ?_ _
  · intro ς ee _ _ _ _
    subst ee
    exact qG_shortOf_x80 hk hP
theorem LG_shortOf {σ σ' : Mem} {x1 : Int32} {x2 : Int32} {x3 : Int32} {r : Int32} (hk : kG_shortOf σ x1 x2 x3 = some (r, σ')) : M l D dA H0 yX8_shortOf YG_shortOf [vR (some (1, 0)), vI x1, vI x2, vI x3] (hp σ) (fun x h' => x = some (vI r) ∧ h' = hp σ') :=
  m_of (j := 2) (by decide) rfl (fun hh => by cases hh) ⟨fun _ _ => trivial, rfl⟩ (le_b rfl) (qG_shortOf hk ⟨rfl, rfl⟩)
theorem qG_refusalOf_s53 {σ : Mem} {x1 : Int32} {x4 : Int32} {x5 : Int32} {x6 : Int32} {o2 : Option AV} {o3 : Option AV} {out : (Int32 × Mem) ⊕ ((Mem) ⊕ (Mem))} (hk : kG_refusalOf_s53 x1 x4 x5 (x6, σ) = some out) (hc : ∀ (z6 : Int32) (ς : Mem), out = .inl (z6, ς) → ∀ (o2 o3 : Option AV), J l D dA H0 YG_refusalOf h0 Po 0 0 (hp ς) 53 [some (vR (some (1, 0))), some (vI x1), o2, o3, some (vI x4), some (vI x5), some (vI z6)] []) (hx0 : ∀ (ς : Mem), out = .inr (.inl ς) → ∀ (o0 o1 o2 o3 o4 o5 o6 : Option AV), J l D dA H0 YG_refusalOf h0 Po 0 0 (hp ς) 76 [o0, o1, o2, o3, o4, o5, o6] []) (hx1 : ∀ (ς : Mem), out = .inr (.inr ς) → ∀ (o1 o2 o3 o4 o6 : Option AV), J l D dA H0 YG_refusalOf h0 Po 0 0 (hp ς) 84 [some (vR (some (1, 0))), o1, o2, o3, o4, some (vI x5), o6] []) : J l D dA H0 YG_refusalOf h0 Po 0 0 (hp σ) 53 [some (vR (some (1, 0))), some (vI x1), o2, o3, some (vI x4), some (vI x5), some (vI x6)] [] := by
  unfold kG_refusalOf_s53 at hk
  refine j_iload (pc' := 55) rfl rfl dX8_refusalOf_53 ?_
  refine j_iload (pc' := 57) rfl rfl dX8_refusalOf_55 ?_
  refine j_ic_ge (pc' := 60) (tg := 84) rfl rfl dX8_refusalOf_57 (fun c10 => ?_) (fun c10 => ?_)
  · have hk := (if_pos c10).symm.trans hk
    obtain rfl := Option.some.inj hk
    exact hx1 _ rfl _ _ _ _ _
  · have hk := (if_neg c10).symm.trans hk
    refine j_aload_n (pc' := 61) rfl rfl dX8_refusalOf_60 ?_
    refine j_iload (pc' := 63) rfl rfl dX8_refusalOf_61 ?_
    refine j_iload_n (pc' := 64) rfl rfl dX8_refusalOf_63 ?_
    refine j_iload (pc' := 66) rfl rfl dX8_refusalOf_64 ?_
    obtain ⟨⟨r7, σ8⟩, hx, hk⟩ := of_bind hk
    refine j_cv1 (pc' := 69) (LG_shortOf hx) cv_RX8_224 ⟨le_b rfl, le_b rfl⟩ (hp_e rfl) rfl rfl (le_b rfl) ⟨rfl, rfl⟩ ⟨le_b rfl, le_b rfl⟩ rfl rfl dX8_refusalOf_66 ?_
    refine j_aload_n (pc' := 70) rfl rfl dX8_refusalOf_69 ?_
    refine j_getf (pc' := 73) fg_RX8_234 (hp_e rfl) rfl rfl dX8_refusalOf_70 ?_
    refine j_ic_le (pc' := 76) (tg := 78) rfl rfl dX8_refusalOf_73 (fun c9 => ?_) (fun c9 => ?_)
    · have hk := (if_pos c9).symm.trans hk
      refine j_iinc (pc' := 81) (v := x6 + 1) rfl rfl (lt_b rfl) rfl rfl dX8_refusalOf_78 ?_
      refine j_goto (tg := 53) rfl dX8_refusalOf_81 ?_
      obtain rfl := Option.some.inj hk
      exact hc _ _ rfl _ _
    · have hk := (if_neg c9).symm.trans hk
      obtain rfl := Option.some.inj hk
      exact hx0 _ rfl _ _ _ _ _ _ _
theorem lG_refusalOf_s53 {x1 : Int32} {x4 : Int32} {x5 : Int32} : ∀ (n : Nat) (x6 : Int32) (σ : Mem) (e : ((Mem) ⊕ (Mem))), loopF n (kG_refusalOf_s53 x1 x4 x5) (x6, σ) = some e → (∀ (ς : Mem), e = (.inl ς) → ∀ (o0 o1 o2 o3 o4 o5 o6 : Option AV), J l D dA H0 YG_refusalOf h0 Po 0 0 (hp ς) 76 [o0, o1, o2, o3, o4, o5, o6] []) → (∀ (ς : Mem), e = (.inr ς) → ∀ (o1 o2 o3 o4 o6 : Option AV), J l D dA H0 YG_refusalOf h0 Po 0 0 (hp ς) 84 [some (vR (some (1, 0))), o1, o2, o3, o4, some (vI x5), o6] []) → ∀ (o2 o3 : Option AV), J l D dA H0 YG_refusalOf h0 Po 0 0 (hp σ) 53 [some (vR (some (1, 0))), some (vI x1), o2, o3, some (vI x4), some (vI x5), some (vI x6)] []
  | 0, x6, σ, e, he => by cases he
  | n + 1, x6, σ, e, he => by
    intro hx0 hx1 o2 o3
    rcases loopF_succ he with ⟨s', h1, h2⟩ | h1
    · refine qG_refusalOf_s53 h1 ?_ ?_ ?_
      · intro z6 ς ee
        cases ee
        exact lG_refusalOf_s53 n z6 ς e h2 hx0 hx1
      · intro ς ee
        cases ee
      · intro ς ee
        cases ee
    · refine qG_refusalOf_s53 h1 ?_ ?_ ?_
      · intro z6 ς ee
        cases ee
      · intro ς ee
        exact hx0 ς (Sum.inr.inj ee)
      · intro ς ee
        exact hx1 ς (Sum.inr.inj ee)
theorem qG_refusalOf_x76 {σ : Mem} {o0 : Option AV} {o1 : Option AV} {o2 : Option AV} {o3 : Option AV} {o4 : Option AV} {o5 : Option AV} {o6 : Option AV} {res : Int32 × Mem} (hk : kG_refusalOf_x76 σ = some res) (hP : Po (some (vI res.1)) (hp res.2)) : J l D dA H0 YG_refusalOf h0 Po 0 0 (hp σ) 76 [o0, o1, o2, o3, o4, o5, o6] [] := by
  unfold kG_refusalOf_x76 at hk
  refine j_iconst (pc' := 77) (v := 3) rfl rfl dX8_refusalOf_76 ?_
  obtain rfl := Option.some.inj hk
  exact j_iret rfl ⟨rfl, rfl⟩ dX8_refusalOf_77 hP
theorem qG_refusalOf_x84 {σ : Mem} {x5 : Int32} {o1 : Option AV} {o2 : Option AV} {o3 : Option AV} {o4 : Option AV} {o6 : Option AV} {res : Int32 × Mem} (hk : kG_refusalOf_x84 σ x5 = some res) (hP : Po (some (vI res.1)) (hp res.2)) : J l D dA H0 YG_refusalOf h0 Po 0 0 (hp σ) 84 [some (vR (some (1, 0))), o1, o2, o3, o4, some (vI x5), o6] [] := by
  unfold kG_refusalOf_x84 at hk
  refine j_iload (pc' := 86) rfl rfl dX8_refusalOf_84 ?_
  refine j_iconst (pc' := 87) (v := (-1)) rfl rfl dX8_refusalOf_86 ?_
  refine j_ic_ne (pc' := 90) (tg := 104) rfl rfl dX8_refusalOf_87 (fun c14 => ?_) (fun c14 => ?_)
  · have hk := (if_neg c14).symm.trans hk
    refine j_iconst (pc' := 105) (v := 0) rfl rfl dX8_refusalOf_104 ?_
    obtain rfl := Option.some.inj hk
    exact j_iret rfl ⟨rfl, rfl⟩ dX8_refusalOf_105 hP
  · have hk := (if_pos c14).symm.trans hk
    refine j_aload_n (pc' := 91) rfl rfl dX8_refusalOf_90 ?_
    refine j_getf (pc' := 94) fg_RX8_19 (hp_e rfl) rfl rfl dX8_refusalOf_91 ?_
    obtain ⟨⟨r11, σ12⟩, hx, hk⟩ := of_bind hk
    refine j_cv1 (pc' := 97) (LB_isFull hx) cv_RX8_282 ⟨le_b rfl, le_b rfl⟩ (hp_e rfl) rfl rfl (le_b rfl) ⟨rfl, rfl⟩ ⟨le_b rfl, le_b rfl⟩ rfl rfl dX8_refusalOf_94 ?_
    refine j_if_eq (pc' := 100) (tg := 104) rfl rfl dX8_refusalOf_97 (fun c13 => ?_) (fun c13 => ?_)
    · have hk := (if_pos c13).symm.trans hk
      refine j_iconst (pc' := 105) (v := 0) rfl rfl dX8_refusalOf_104 ?_
      obtain rfl := Option.some.inj hk
      exact j_iret rfl ⟨rfl, rfl⟩ dX8_refusalOf_105 hP
    · have hk := (if_neg c13).symm.trans hk
      refine j_iconst (pc' := 101) (v := 4) rfl rfl dX8_refusalOf_100 ?_
      refine j_goto (tg := 105) rfl dX8_refusalOf_101 ?_
      obtain rfl := Option.some.inj hk
      exact j_iret rfl ⟨rfl, rfl⟩ dX8_refusalOf_105 hP
theorem qG_refusalOf {σ : Mem} {x1 : Int32} {x2 : Int32} {x3 : Int32} {x4 : Int32} {x5 : Int32} {o6 : Option AV} {res : Int32 × Mem} (hk : kG_refusalOf σ x1 x2 x3 x4 x5 = some res) (hP : Po (some (vI res.1)) (hp res.2)) : J l D dA H0 YG_refusalOf h0 Po 0 0 (hp σ) 0 [some (vR (some (1, 0))), some (vI x1), some (vI x2), some (vI x3), some (vI x4), some (vI x5), o6] [] := by
  unfold kG_refusalOf at hk
  refine j_aload_n (pc' := 1) rfl rfl dX8_refusalOf_0 ?_
  refine j_iload_n (pc' := 2) rfl rfl dX8_refusalOf_1 ?_
  refine j_iload_n (pc' := 3) rfl rfl dX8_refusalOf_2 ?_
  refine j_iload (pc' := 5) rfl rfl dX8_refusalOf_3 ?_
  obtain ⟨⟨r1, σ2⟩, hx, hk⟩ := of_bind hk
  refine j_cv1 (pc' := 8) (LG_isWish hx) cv_RX8_250 ⟨le_b rfl, le_b rfl⟩ (hp_e rfl) rfl rfl (le_b rfl) ⟨rfl, rfl⟩ ⟨le_b rfl, le_b rfl⟩ rfl rfl dX8_refusalOf_5 ?_
  refine j_if_eq (pc' := 11) (tg := 24) rfl rfl dX8_refusalOf_8 (fun c18 => ?_) (fun c18 => ?_)
  · have hk := (if_pos c18).symm.trans hk
    refine j_iconst (pc' := 25) (v := 1) rfl rfl dX8_refusalOf_24 ?_
    obtain rfl := Option.some.inj hk
    exact j_iret rfl ⟨rfl, rfl⟩ dX8_refusalOf_25 hP
  · have hk := (if_neg c18).symm.trans hk
    refine j_iload_n (pc' := 12) rfl rfl dX8_refusalOf_11 ?_
    refine j_iconst (pc' := 13) (v := 1) rfl rfl dX8_refusalOf_12 ?_
    refine j_ic_lt (pc' := 16) (tg := 24) rfl rfl dX8_refusalOf_13 (fun c17 => ?_) (fun c17 => ?_)
    · have hk := (if_pos c17).symm.trans hk
      refine j_iconst (pc' := 25) (v := 1) rfl rfl dX8_refusalOf_24 ?_
      obtain rfl := Option.some.inj hk
      exact j_iret rfl ⟨rfl, rfl⟩ dX8_refusalOf_25 hP
    · have hk := (if_neg c17).symm.trans hk
      refine j_iload_n (pc' := 17) rfl rfl dX8_refusalOf_16 ?_
      refine j_iload_n (pc' := 18) rfl rfl dX8_refusalOf_17 ?_
      obtain ⟨⟨r3, σ4⟩, hx, hk⟩ := of_bind hk
      refine j_cs1 (pc' := 21) (LG_mostPeople hx) cs_RX8_279 ⟨le_b rfl, le_b rfl⟩ rfl (le_b rfl) ⟨rfl, rfl⟩ ⟨le_b rfl, le_b rfl⟩ rfl rfl dX8_refusalOf_18 ?_
      refine j_ic_le (pc' := 24) (tg := 26) rfl rfl dX8_refusalOf_21 (fun c16 => ?_) (fun c16 => ?_)
      · have hk := (if_pos c16).symm.trans hk
        refine j_aload_n (pc' := 27) rfl rfl dX8_refusalOf_26 ?_
        refine j_getf (pc' := 30) fg_RX8_44 (hp_e rfl) rfl rfl dX8_refusalOf_27 ?_
        refine j_iload_n (pc' := 31) rfl rfl dX8_refusalOf_30 ?_
        refine j_iload_n (pc' := 32) rfl rfl dX8_refusalOf_31 ?_
        refine j_iload (pc' := 34) rfl rfl dX8_refusalOf_32 ?_
        refine j_aload_n (pc' := 35) rfl rfl dX8_refusalOf_34 ?_
        refine j_getf (pc' := 38) fg_RX8_120 (hp_e rfl) rfl rfl dX8_refusalOf_35 ?_
        obtain ⟨⟨r5, σ6⟩, hx, hk⟩ := of_bind hk
        refine j_cv1 (pc' := 41) (LT_leastCost hx) cv_RX8_128 ⟨le_b rfl, le_b rfl⟩ (hp_e rfl) rfl rfl (le_b rfl) ⟨rfl, rfl⟩ ⟨le_b rfl, le_b rfl⟩ rfl rfl dX8_refusalOf_38 ?_
        refine j_ldc2 (pc' := 44) (v := (-1)) (gd_of (i := 392) (by decide +kernel) rfl) rfl dX8_refusalOf_41 ?_
        refine j_lcmp (pc' := 45) rfl dX8_refusalOf_44 ?_
        refine j_if_ne (pc' := 48) (tg := 50) rfl rfl dX8_refusalOf_45 (fun c15 => ?_) (fun c15 => ?_)
        · have hk := (if_neg c15).symm.trans hk
          refine j_iload_n (pc' := 51) rfl rfl dX8_refusalOf_50 ?_
          refine j_istore (pc' := 53) (lt_b rfl) rfl rfl dX8_refusalOf_51 ?_
          obtain ⟨e, he, hk⟩ := of_bind hk
          refine lG_refusalOf_s53 FU _ _ e he ?_ ?_ _ _
          · intro ς ee _ _ _ _ _ _ _
            subst ee
            exact qG_refusalOf_x76 hk hP
          · intro ς ee _ _ _ _ _
            subst ee
            exact qG_refusalOf_x84 hk hP
        · have hk := (if_pos c15).symm.trans hk
          refine j_iconst (pc' := 49) (v := 2) rfl rfl dX8_refusalOf_48 ?_
          obtain rfl := Option.some.inj hk
          exact j_iret rfl ⟨rfl, rfl⟩ dX8_refusalOf_49 hP
      · have hk := (if_neg c16).symm.trans hk
        refine j_iconst (pc' := 25) (v := 1) rfl rfl dX8_refusalOf_24 ?_
        obtain rfl := Option.some.inj hk
        exact j_iret rfl ⟨rfl, rfl⟩ dX8_refusalOf_25 hP
theorem LG_refusalOf {σ σ' : Mem} {x1 : Int32} {x2 : Int32} {x3 : Int32} {x4 : Int32} {x5 : Int32} {r : Int32} (hk : kG_refusalOf σ x1 x2 x3 x4 x5 = some (r, σ')) : M l D dA H0 yX8_refusalOf YG_refusalOf [vR (some (1, 0)), vI x1, vI x2, vI x3, vI x4, vI x5] (hp σ) (fun x h' => x = some (vI r) ∧ h' = hp σ') :=
  m_of (j := 1) (by decide) rfl (fun hh => by cases hh) ⟨fun _ _ => trivial, rfl⟩ (le_b rfl) (qG_refusalOf hk ⟨rfl, rfl⟩)
theorem qG_can {σ : Mem} {x1 : Int32} {x2 : Int32} {x3 : Int32} {x4 : Int32} {res : Int32 × Mem} (hk : kG_can σ x1 x2 x3 x4 = some res) (hP : Po (some (vI res.1)) (hp res.2)) : J l D dA H0 YG_can h0 Po 0 0 (hp σ) 0 [some (vR (some (1, 0))), some (vI x1), some (vI x2), some (vI x3), some (vI x4)] [] := by
  unfold kG_can at hk
  refine j_aload_n (pc' := 1) rfl rfl dX8_can_0 ?_
  refine j_iload_n (pc' := 2) rfl rfl dX8_can_1 ?_
  refine j_iload_n (pc' := 3) rfl rfl dX8_can_2 ?_
  refine j_iload_n (pc' := 4) rfl rfl dX8_can_3 ?_
  refine j_iload (pc' := 6) rfl rfl dX8_can_4 ?_
  refine j_iconst (pc' := 7) (v := (-1)) rfl rfl dX8_can_6 ?_
  obtain ⟨⟨r1, σ2⟩, hx, hk⟩ := of_bind hk
  refine j_cv1 (pc' := 10) (LG_refusalOf hx) cv_RX8_116 ⟨le_b rfl, le_b rfl⟩ (hp_e rfl) rfl rfl (le_b rfl) ⟨rfl, rfl⟩ ⟨le_b rfl, le_b rfl⟩ rfl rfl dX8_can_7 ?_
  obtain rfl := Option.some.inj hk
  exact j_iret rfl ⟨rfl, rfl⟩ dX8_can_10 hP
theorem LG_can {σ σ' : Mem} {x1 : Int32} {x2 : Int32} {x3 : Int32} {x4 : Int32} {r : Int32} (hk : kG_can σ x1 x2 x3 x4 = some (r, σ')) : M l D dA H0 yX8_can YG_can [vR (some (1, 0)), vI x1, vI x2, vI x3, vI x4] (hp σ) (fun x h' => x = some (vI r) ∧ h' = hp σ') :=
  m_of (j := 0) (by decide) rfl (fun hh => by cases hh) ⟨fun _ _ => trivial, rfl⟩ (le_b rfl) (qG_can hk ⟨rfl, rfl⟩)
theorem qG_promise_j35 {σ : Mem} {x1 : Int32} {x2 : Int32} {x3 : Int32} {x4 : Int32} {x5 : Int32} {x6 : Int32} {o7 : Option AV} {res : Int32 × Mem} (hk : kG_promise_j35 σ x1 x2 x3 x4 x5 x6 = some res) (hP : Po (some (vI res.1)) (hp res.2)) : J l D dA H0 YG_promise h0 Po 0 0 (hp σ) 35 [some (vR (some (1, 0))), some (vI x1), some (vI x2), some (vI x3), some (vI x4), some (vI x5), some (vI x6), o7] [] := by
  unfold kG_promise_j35 at hk
  refine j_iload (pc' := 37) rfl rfl dX8_promise_35 ?_
  refine j_if_eq (pc' := 40) (tg := 45) rfl rfl dX8_promise_37 (fun c14 => ?_) (fun c14 => ?_)
  · have hk := (if_pos c14).symm.trans hk
    obtain ⟨g3, hk⟩ := of_ite hk
    refine j_new (pc' := 48) (21, ix (mI σ 5 0 1)) (c := 3) (fs := [vI 0, vI 0, vI 0, vI 0, vI 0, vI 0, vL 0, vR none]) (hp_no g3) rfl gdX3 tyX3 tyX3_ok ⟨gd_of (i := 453) (by decide +kernel) rfl, gd_of (i := 454) (by decide +kernel) rfl, gd_of (i := 53) (by decide +kernel) rfl⟩ (by decide) (fun _ => by simp [okE, okV]) ⟨le_b rfl, le_b rfl⟩ rfl dX8_promise_45 ?_
    refine j_dup (pc' := 49) rfl rfl dX8_promise_48 ?_
    refine j_iload_n (pc' := 50) rfl rfl dX8_promise_49 ?_
    refine j_iload_n (pc' := 51) rfl rfl dX8_promise_50 ?_
    refine j_iload (pc' := 53) rfl rfl dX8_promise_51 ?_
    obtain ⟨⟨_, σ5⟩, hx, hk⟩ := of_bind hk
    refine j_callI (pc' := 56) (LQ_init hx) ci_RX8_125 ⟨le_b rfl, le_b rfl⟩ rfl (le_b rfl) ⟨le_b rfl, le_b rfl⟩ rfl rfl dX8_promise_53 (fun _ _ hPq => ?_)
    obtain ⟨rfl, rfl⟩ := hPq
    refine j_astore (pc' := 58) (lt_b rfl) rfl rfl dX8_promise_56 ?_
    refine j_aload (pc' := 60) rfl rfl dX8_promise_58 ?_
    refine j_iload_n (pc' := 61) rfl rfl dX8_promise_60 ?_
    refine j_iload (pc' := 63) rfl rfl dX8_promise_61 ?_
    refine j_aload_n (pc' := 64) rfl rfl dX8_promise_63 ?_
    refine j_getf (pc' := 67) fg_RX8_44 (hp_e rfl) rfl rfl dX8_promise_64 ?_
    refine j_iload_n (pc' := 68) rfl rfl dX8_promise_67 ?_
    refine j_iload_n (pc' := 69) rfl rfl dX8_promise_68 ?_
    refine j_iload (pc' := 71) rfl rfl dX8_promise_69 ?_
    refine j_aload_n (pc' := 72) rfl rfl dX8_promise_71 ?_
    refine j_getf (pc' := 75) fg_RX8_120 (hp_e rfl) rfl rfl dX8_promise_72 ?_
    obtain ⟨⟨r6, σ7⟩, hx, hk⟩ := of_bind hk
    refine j_cv1 (pc' := 78) (LT_leastCost hx) cv_RX8_128 ⟨le_b rfl, le_b rfl⟩ (hp_e rfl) rfl rfl (le_b rfl) ⟨rfl, rfl⟩ ⟨le_b rfl, le_b rfl⟩ rfl rfl dX8_promise_75 ?_
    obtain ⟨⟨_, σ9⟩, hx, hk⟩ := of_bind hk
    refine j_cv0 (pc' := 81) (LQ_setNights hx) cv_RX8_132 ⟨le_b rfl, le_b rfl⟩ (hp_e rfl) rfl rfl (le_b rfl) ⟨rfl, rfl⟩ ⟨le_b rfl, le_b rfl⟩ rfl rfl dX8_promise_78 ?_
    refine j_aload_n (pc' := 82) rfl rfl dX8_promise_81 ?_
    refine j_iload_n (pc' := 83) rfl rfl dX8_promise_82 ?_
    obtain ⟨⟨_, σ11⟩, hx, hk⟩ := of_bind hk
    refine j_cv0 (pc' := 86) (LG_replanFrom hx) cv_RX8_61 ⟨le_b rfl, le_b rfl⟩ (hp_e rfl) rfl rfl (le_b rfl) ⟨rfl, rfl⟩ ⟨le_b rfl, le_b rfl⟩ rfl rfl dX8_promise_83 ?_
    refine j_aload_n (pc' := 87) rfl rfl dX8_promise_86 ?_
    refine j_getf (pc' := 90) fg_RX8_19 (hp_e rfl) rfl rfl dX8_promise_87 ?_
    refine j_aload (pc' := 92) rfl rfl dX8_promise_90 ?_
    obtain ⟨⟨r12, σ13⟩, hx, hk⟩ := of_bind hk
    refine j_cv1 (pc' := 95) (LB_enter hx) cv_RX8_136 ⟨le_b rfl, le_b rfl⟩ (hp_e rfl) rfl rfl (le_b rfl) ⟨rfl, rfl⟩ ⟨le_b rfl, le_b rfl⟩ rfl rfl dX8_promise_92 ?_
    obtain rfl := Option.some.inj hk
    refine j_wide (k' := 2) (n' := 68) (le_b rfl) (le_b rfl) ?_
    exact j_iret rfl ⟨rfl, rfl⟩ dX8_promise_95 hP
  · have hk := (if_neg c14).symm.trans hk
    refine j_iconst (pc' := 41) (v := (-1)) rfl rfl dX8_promise_40 ?_
    refine j_iload (pc' := 43) rfl rfl dX8_promise_41 ?_
    refine j_isub (pc' := 44) rfl dX8_promise_43 ?_
    obtain rfl := Option.some.inj hk
    refine j_wide (k' := 2) (n' := 68) (le_b rfl) (le_b rfl) ?_
    exact j_iret rfl ⟨rfl, rfl⟩ dX8_promise_44 hP
theorem qG_promise {σ : Mem} {x1 : Int32} {x2 : Int32} {x3 : Int32} {x4 : Int32} {x5 : Int32} {o6 : Option AV} {o7 : Option AV} {res : Int32 × Mem} (hk : kG_promise σ x1 x2 x3 x4 x5 = some res) (hP : Po (some (vI res.1)) (hp res.2)) : J l D dA H0 YG_promise h0 Po 0 0 (hp σ) 0 [some (vR (some (1, 0))), some (vI x1), some (vI x2), some (vI x3), some (vI x4), some (vI x5), o6, o7] [] := by
  unfold kG_promise at hk
  refine j_aload_n (pc' := 1) rfl rfl dX8_promise_0 ?_
  refine j_iload_n (pc' := 2) rfl rfl dX8_promise_1 ?_
  refine j_iload_n (pc' := 3) rfl rfl dX8_promise_2 ?_
  refine j_iload_n (pc' := 4) rfl rfl dX8_promise_3 ?_
  refine j_iload (pc' := 6) rfl rfl dX8_promise_4 ?_
  refine j_iconst (pc' := 7) (v := (-1)) rfl rfl dX8_promise_6 ?_
  obtain ⟨⟨r1, σ2⟩, hx, hk⟩ := of_bind hk
  refine j_cv1 (pc' := 10) (LG_refusalOf hx) cv_RX8_116 ⟨le_b rfl, le_b rfl⟩ (hp_e rfl) rfl rfl (le_b rfl) ⟨rfl, rfl⟩ ⟨le_b rfl, le_b rfl⟩ rfl rfl dX8_promise_7 ?_
  refine j_istore (pc' := 12) (lt_b rfl) rfl rfl dX8_promise_10 ?_
  refine j_iload (pc' := 14) rfl rfl dX8_promise_12 ?_
  refine j_if_ne (pc' := 17) (tg := 35) rfl rfl dX8_promise_14 (fun c17 => ?_) (fun c17 => ?_)
  · have hk := (if_neg c17).symm.trans hk
    exact qG_promise_j35 hk hP
  · have hk := (if_pos c17).symm.trans hk
    refine j_iload (pc' := 19) rfl rfl dX8_promise_17 ?_
    refine j_iconst (pc' := 20) (v := (-1)) rfl rfl dX8_promise_19 ?_
    refine j_ic_eq (pc' := 23) (tg := 35) rfl rfl dX8_promise_20 (fun c16 => ?_) (fun c16 => ?_)
    · have hk := (if_pos c16).symm.trans hk
      exact qG_promise_j35 hk hP
    · have hk := (if_neg c16).symm.trans hk
      refine j_iload (pc' := 25) rfl rfl dX8_promise_23 ?_
      refine j_aload_n (pc' := 26) rfl rfl dX8_promise_25 ?_
      refine j_getf (pc' := 29) fg_RX8_120 (hp_e rfl) rfl rfl dX8_promise_26 ?_
      refine j_ic_ge (pc' := 32) (tg := 35) rfl rfl dX8_promise_29 (fun c15 => ?_) (fun c15 => ?_)
      · have hk := (if_pos c15).symm.trans hk
        exact qG_promise_j35 hk hP
      · have hk := (if_neg c15).symm.trans hk
        refine j_iconst (pc' := 33) (v := 5) rfl rfl dX8_promise_32 ?_
        refine j_istore (pc' := 35) (lt_b rfl) rfl rfl dX8_promise_33 ?_
        exact qG_promise_j35 hk hP
theorem LG_promise {σ σ' : Mem} {x1 : Int32} {x2 : Int32} {x3 : Int32} {x4 : Int32} {x5 : Int32} {r : Int32} (hk : kG_promise σ x1 x2 x3 x4 x5 = some (r, σ')) : M l D dA H0 yX8_promise YG_promise [vR (some (1, 0)), vI x1, vI x2, vI x3, vI x4, vI x5] (hp σ) (fun x h' => x = some (vI r) ∧ h' = hp σ') :=
  m_of (j := 2) (by decide) rfl (fun hh => by cases hh) ⟨fun _ _ => trivial, rfl⟩ (le_b rfl) (qG_promise hk ⟨rfl, rfl⟩)
theorem qG_setState {σ : Mem} {x1 : Nat} {x2 : Int32} {res : Unit × Mem} (hk : kG_setState σ x1 x2 = some res) (hP : Po none (hp res.2)) : J l D dA H0 YG_setState h0 Po 0 0 (hp σ) 0 [some (vR (some (1, 0))), some (vR (some (21, x1))), some (vI x2)] [] := by
  unfold kG_setState at hk
  refine j_aload_n (pc' := 1) rfl rfl dX8_setState_0 ?_
  refine j_iload_n (pc' := 2) rfl rfl dX8_setState_1 ?_
  refine j_pi (pc' := 5) (ty := .int) fg_RX8_144 ttX3 rfl rfl ⟨rfl, rfl⟩ rfl (lt_b rfl) rfl rfl dX8_setState_2 ?_
  refine j_aload_n (pc' := 6) rfl rfl dX8_setState_5 ?_
  refine j_aload_n (pc' := 7) rfl rfl dX8_setState_6 ?_
  refine j_getf (pc' := 10) fg_RX8_161 (hp_e rfl) rfl rfl dX8_setState_7 ?_
  obtain ⟨⟨_, σ2⟩, hx, hk⟩ := of_bind hk
  refine j_cv0 (pc' := 13) (LG_replanFrom hx) cv_RX8_61 ⟨le_b rfl, le_b rfl⟩ (hp_e rfl) rfl rfl (le_b rfl) ⟨rfl, rfl⟩ ⟨le_b rfl, le_b rfl⟩ rfl rfl dX8_setState_10 ?_
  obtain rfl := Option.some.inj hk
  exact j_ret rfl ⟨rfl, rfl⟩ dX8_setState_13 hP
theorem LG_setState {σ σ' : Mem} {x1 : Nat} {x2 : Int32} {r : Unit} (hk : kG_setState σ x1 x2 = some (r, σ')) : M l D dA H0 yX8_setState YG_setState [vR (some (1, 0)), vR (some (21, x1)), vI x2] (hp σ) (fun x h' => x = none ∧ h' = hp σ') :=
  m_of (j := 0) (by decide) rfl (fun hh => by cases hh) ⟨fun _ _ => trivial, rfl⟩ (le_b rfl) (qG_setState hk ⟨rfl, rfl⟩)
theorem qG_firm {σ : Mem} {x1 : Int32} {o2 : Option AV} {res : Int32 × Mem} (hk : kG_firm σ x1 = some res) (hP : Po (some (vI res.1)) (hp res.2)) : J l D dA H0 YG_firm h0 Po 0 0 (hp σ) 0 [some (vR (some (1, 0))), some (vI x1), o2] [] := by
  unfold kG_firm at hk
  refine j_aload_n (pc' := 1) rfl rfl dX8_firm_0 ?_
  refine j_getf (pc' := 4) fg_RX8_19 (hp_e rfl) rfl rfl dX8_firm_1 ?_
  refine j_iload_n (pc' := 5) rfl rfl dX8_firm_4 ?_
  obtain ⟨⟨r1, σ2⟩, hx, hk⟩ := of_bind hk
  refine j_cv1 (pc' := 8) (LB_at hx) cv_RX8_140 ⟨le_b rfl, le_b rfl⟩ (hp_e rfl) rfl rfl (le_b rfl) ⟨rfl, rfl⟩ ⟨le_b rfl, le_b rfl⟩ rfl rfl dX8_firm_5 ?_
  refine j_astore_n (pc' := 9) (lt_b rfl) rfl rfl dX8_firm_8 ?_
  refine j_aload_n (pc' := 10) rfl rfl dX8_firm_9 ?_
  rcases of_elim hk with ⟨hr, hk⟩ | ⟨j3, hr, hk⟩
  · subst hr
    refine j_ifnull (pc' := 13) (tg := 20) rfl rfl dX8_firm_10 (fun _ => ?_) (fun _ hh => by cases hh)
    refine j_iconst (pc' := 21) (v := 0) rfl rfl dX8_firm_20 ?_
    obtain rfl := Option.some.inj hk
    exact j_zret rfl rfl ⟨rfl, rfl⟩ dX8_firm_21 hP
  · subst hr
    refine j_ifnull (pc' := 13) (tg := 20) rfl rfl dX8_firm_10 (fun hh => by cases hh) (fun _ _ => ?_)
    refine j_aload_n (pc' := 14) rfl rfl dX8_firm_13 ?_
    refine j_getf (pc' := 17) fg_RX8_144 (hp_e rfl) rfl rfl dX8_firm_14 ?_
    refine j_if_eq (pc' := 20) (tg := 22) rfl rfl dX8_firm_17 (fun c6 => ?_) (fun c6 => ?_)
    · have hk := (if_pos c6).symm.trans hk
      refine j_aload_n (pc' := 23) rfl rfl dX8_firm_22 ?_
      refine j_aload_n (pc' := 24) rfl rfl dX8_firm_23 ?_
      refine j_iconst (pc' := 25) (v := 1) rfl rfl dX8_firm_24 ?_
      obtain ⟨⟨_, σ5⟩, hx, hk⟩ := of_bind hk
      refine j_cv0 (pc' := 28) (LG_setState hx) cv_RX8_147 ⟨le_b rfl, le_b rfl⟩ (hp_e rfl) rfl rfl (le_b rfl) ⟨rfl, rfl⟩ ⟨le_b rfl, le_b rfl⟩ rfl rfl dX8_firm_25 ?_
      refine j_iconst (pc' := 29) (v := 1) rfl rfl dX8_firm_28 ?_
      obtain rfl := Option.some.inj hk
      exact j_zret rfl rfl ⟨rfl, rfl⟩ dX8_firm_29 hP
    · have hk := (if_neg c6).symm.trans hk
      refine j_iconst (pc' := 21) (v := 0) rfl rfl dX8_firm_20 ?_
      obtain rfl := Option.some.inj hk
      exact j_zret rfl rfl ⟨rfl, rfl⟩ dX8_firm_21 hP
theorem LG_firm {σ σ' : Mem} {x1 : Int32} {r : Int32} (hk : kG_firm σ x1 = some (r, σ')) : M l D dA H0 yX8_firm YG_firm [vR (some (1, 0)), vI x1] (hp σ) (fun x h' => x = some (vI r) ∧ h' = hp σ') :=
  m_of (j := 1) (by decide) rfl (fun hh => by cases hh) ⟨fun _ _ => trivial, rfl⟩ (le_b rfl) (qG_firm hk ⟨rfl, rfl⟩)
theorem qG_cancel {σ : Mem} {x1 : Int32} {o2 : Option AV} {res : Int32 × Mem} (hk : kG_cancel σ x1 = some res) (hP : Po (some (vI res.1)) (hp res.2)) : J l D dA H0 YG_cancel h0 Po 0 0 (hp σ) 0 [some (vR (some (1, 0))), some (vI x1), o2] [] := by
  unfold kG_cancel at hk
  refine j_aload_n (pc' := 1) rfl rfl dX8_cancel_0 ?_
  refine j_getf (pc' := 4) fg_RX8_19 (hp_e rfl) rfl rfl dX8_cancel_1 ?_
  refine j_iload_n (pc' := 5) rfl rfl dX8_cancel_4 ?_
  obtain ⟨⟨r1, σ2⟩, hx, hk⟩ := of_bind hk
  refine j_cv1 (pc' := 8) (LB_at hx) cv_RX8_140 ⟨le_b rfl, le_b rfl⟩ (hp_e rfl) rfl rfl (le_b rfl) ⟨rfl, rfl⟩ ⟨le_b rfl, le_b rfl⟩ rfl rfl dX8_cancel_5 ?_
  refine j_astore_n (pc' := 9) (lt_b rfl) rfl rfl dX8_cancel_8 ?_
  refine j_aload_n (pc' := 10) rfl rfl dX8_cancel_9 ?_
  rcases of_elim hk with ⟨hr, hk⟩ | ⟨j3, hr, hk⟩
  · subst hr
    refine j_ifnull (pc' := 13) (tg := 20) rfl rfl dX8_cancel_10 (fun _ => ?_) (fun _ hh => by cases hh)
    refine j_iconst (pc' := 21) (v := 0) rfl rfl dX8_cancel_20 ?_
    obtain rfl := Option.some.inj hk
    exact j_zret rfl rfl ⟨rfl, rfl⟩ dX8_cancel_21 hP
  · subst hr
    refine j_ifnull (pc' := 13) (tg := 20) rfl rfl dX8_cancel_10 (fun hh => by cases hh) (fun _ _ => ?_)
    refine j_aload_n (pc' := 14) rfl rfl dX8_cancel_13 ?_
    obtain ⟨⟨r4, σ5⟩, hx, hk⟩ := of_bind hk
    refine j_cv1 (pc' := 17) (LQ_isAhead hx) cv_RX8_151 ⟨le_b rfl, le_b rfl⟩ (hp_e rfl) rfl rfl (le_b rfl) ⟨rfl, rfl⟩ ⟨le_b rfl, le_b rfl⟩ rfl rfl dX8_cancel_14 ?_
    refine j_if_ne (pc' := 20) (tg := 22) rfl rfl dX8_cancel_17 (fun c8 => ?_) (fun c8 => ?_)
    · have hk := (if_neg c8).symm.trans hk
      refine j_aload_n (pc' := 23) rfl rfl dX8_cancel_22 ?_
      refine j_aload_n (pc' := 24) rfl rfl dX8_cancel_23 ?_
      refine j_iconst (pc' := 25) (v := 4) rfl rfl dX8_cancel_24 ?_
      obtain ⟨⟨_, σ7⟩, hx, hk⟩ := of_bind hk
      refine j_cv0 (pc' := 28) (LG_setState hx) cv_RX8_147 ⟨le_b rfl, le_b rfl⟩ (hp_e rfl) rfl rfl (le_b rfl) ⟨rfl, rfl⟩ ⟨le_b rfl, le_b rfl⟩ rfl rfl dX8_cancel_25 ?_
      refine j_iconst (pc' := 29) (v := 1) rfl rfl dX8_cancel_28 ?_
      obtain rfl := Option.some.inj hk
      exact j_zret rfl rfl ⟨rfl, rfl⟩ dX8_cancel_29 hP
    · have hk := (if_pos c8).symm.trans hk
      refine j_iconst (pc' := 21) (v := 0) rfl rfl dX8_cancel_20 ?_
      obtain rfl := Option.some.inj hk
      exact j_zret rfl rfl ⟨rfl, rfl⟩ dX8_cancel_21 hP
theorem LG_cancel {σ σ' : Mem} {x1 : Int32} {r : Int32} (hk : kG_cancel σ x1 = some (r, σ')) : M l D dA H0 yX8_cancel YG_cancel [vR (some (1, 0)), vI x1] (hp σ) (fun x h' => x = some (vI r) ∧ h' = hp σ') :=
  m_of (j := 1) (by decide) rfl (fun hh => by cases hh) ⟨fun _ _ => trivial, rfl⟩ (le_b rfl) (qG_cancel hk ⟨rfl, rfl⟩)
theorem qG_change {σ : Mem} {x1 : Int32} {x2 : Int32} {x3 : Int32} {o4 : Option AV} {o5 : Option AV} {res : Int32 × Mem} (hk : kG_change σ x1 x2 x3 = some res) (hP : Po (some (vI res.1)) (hp res.2)) : J l D dA H0 YG_change h0 Po 0 0 (hp σ) 0 [some (vR (some (1, 0))), some (vI x1), some (vI x2), some (vI x3), o4, o5] [] := by
  unfold kG_change at hk
  refine j_aload_n (pc' := 1) rfl rfl dX8_change_0 ?_
  refine j_getf (pc' := 4) fg_RX8_19 (hp_e rfl) rfl rfl dX8_change_1 ?_
  refine j_iload_n (pc' := 5) rfl rfl dX8_change_4 ?_
  obtain ⟨⟨r1, σ2⟩, hx, hk⟩ := of_bind hk
  refine j_cv1 (pc' := 8) (LB_at hx) cv_RX8_140 ⟨le_b rfl, le_b rfl⟩ (hp_e rfl) rfl rfl (le_b rfl) ⟨rfl, rfl⟩ ⟨le_b rfl, le_b rfl⟩ rfl rfl dX8_change_5 ?_
  refine j_astore (pc' := 10) (lt_b rfl) rfl rfl dX8_change_8 ?_
  refine j_aload (pc' := 12) rfl rfl dX8_change_10 ?_
  rcases of_elim hk with ⟨hr, hk⟩ | ⟨j3, hr, hk⟩
  · subst hr
    refine j_ifnull (pc' := 15) (tg := 23) rfl rfl dX8_change_12 (fun _ => ?_) (fun _ hh => by cases hh)
    refine j_bipush (pc' := 25) (v := 6) rfl rfl dX8_change_23 ?_
    obtain rfl := Option.some.inj hk
    exact j_iret rfl ⟨rfl, rfl⟩ dX8_change_25 hP
  · subst hr
    refine j_ifnull (pc' := 15) (tg := 23) rfl rfl dX8_change_12 (fun hh => by cases hh) (fun _ _ => ?_)
    refine j_aload (pc' := 17) rfl rfl dX8_change_15 ?_
    obtain ⟨⟨r4, σ5⟩, hx, hk⟩ := of_bind hk
    refine j_cv1 (pc' := 20) (LQ_isAhead hx) cv_RX8_151 ⟨le_b rfl, le_b rfl⟩ (hp_e rfl) rfl rfl (le_b rfl) ⟨rfl, rfl⟩ ⟨le_b rfl, le_b rfl⟩ rfl rfl dX8_change_17 ?_
    refine j_if_ne (pc' := 23) (tg := 26) rfl rfl dX8_change_20 (fun c17 => ?_) (fun c17 => ?_)
    · have hk := (if_neg c17).symm.trans hk
      refine j_aload_n (pc' := 27) rfl rfl dX8_change_26 ?_
      refine j_aload (pc' := 29) rfl rfl dX8_change_27 ?_
      refine j_getf (pc' := 32) fg_RX8_155 (hp_e rfl) rfl rfl dX8_change_29 ?_
      refine j_aload (pc' := 34) rfl rfl dX8_change_32 ?_
      refine j_getf (pc' := 37) fg_RX8_158 (hp_e rfl) rfl rfl dX8_change_34 ?_
      refine j_iload_n (pc' := 38) rfl rfl dX8_change_37 ?_
      refine j_iload_n (pc' := 39) rfl rfl dX8_change_38 ?_
      refine j_iload_n (pc' := 40) rfl rfl dX8_change_39 ?_
      obtain ⟨⟨r6, σ7⟩, hx, hk⟩ := of_bind hk
      refine j_cv1 (pc' := 43) (LG_refusalOf hx) cv_RX8_116 ⟨le_b rfl, le_b rfl⟩ (hp_e rfl) rfl rfl (le_b rfl) ⟨rfl, rfl⟩ ⟨le_b rfl, le_b rfl⟩ rfl rfl dX8_change_40 ?_
      refine j_istore (pc' := 45) (lt_b rfl) rfl rfl dX8_change_43 ?_
      refine j_iload (pc' := 47) rfl rfl dX8_change_45 ?_
      refine j_if_eq (pc' := 50) (tg := 53) rfl rfl dX8_change_47 (fun c16 => ?_) (fun c16 => ?_)
      · have hk := (if_pos c16).symm.trans hk
        refine j_aload_n (pc' := 54) rfl rfl dX8_change_53 ?_
        refine j_aload (pc' := 56) rfl rfl dX8_change_54 ?_
        refine j_getf (pc' := 59) fg_RX8_161 (hp_e rfl) rfl rfl dX8_change_56 ?_
        obtain ⟨⟨_, σ9⟩, hx, hk⟩ := of_bind hk
        refine j_cv0 (pc' := 62) (LG_replanFrom hx) cv_RX8_61 ⟨le_b rfl, le_b rfl⟩ (hp_e rfl) rfl rfl (le_b rfl) ⟨rfl, rfl⟩ ⟨le_b rfl, le_b rfl⟩ rfl rfl dX8_change_59 ?_
        refine j_aload_n (pc' := 63) rfl rfl dX8_change_62 ?_
        refine j_iload_n (pc' := 64) rfl rfl dX8_change_63 ?_
        obtain ⟨⟨_, σ11⟩, hx, hk⟩ := of_bind hk
        refine j_cv0 (pc' := 67) (LG_replanFrom hx) cv_RX8_61 ⟨le_b rfl, le_b rfl⟩ (hp_e rfl) rfl rfl (le_b rfl) ⟨rfl, rfl⟩ ⟨le_b rfl, le_b rfl⟩ rfl rfl dX8_change_64 ?_
        refine j_aload (pc' := 69) rfl rfl dX8_change_67 ?_
        refine j_iload_n (pc' := 70) rfl rfl dX8_change_69 ?_
        refine j_iload_n (pc' := 71) rfl rfl dX8_change_70 ?_
        refine j_aload_n (pc' := 72) rfl rfl dX8_change_71 ?_
        refine j_getf (pc' := 75) fg_RX8_44 (hp_e rfl) rfl rfl dX8_change_72 ?_
        refine j_aload (pc' := 77) rfl rfl dX8_change_75 ?_
        refine j_getf (pc' := 80) fg_RX8_155 (hp_e rfl) rfl rfl dX8_change_77 ?_
        refine j_iload_n (pc' := 81) rfl rfl dX8_change_80 ?_
        refine j_iload_n (pc' := 82) rfl rfl dX8_change_81 ?_
        refine j_aload_n (pc' := 83) rfl rfl dX8_change_82 ?_
        refine j_getf (pc' := 86) fg_RX8_120 (hp_e rfl) rfl rfl dX8_change_83 ?_
        obtain ⟨⟨r12, σ13⟩, hx, hk⟩ := of_bind hk
        refine j_cv1 (pc' := 89) (LT_leastCost hx) cv_RX8_128 ⟨le_b rfl, le_b rfl⟩ (hp_e rfl) rfl rfl (le_b rfl) ⟨rfl, rfl⟩ ⟨le_b rfl, le_b rfl⟩ rfl rfl dX8_change_86 ?_
        obtain ⟨⟨_, σ15⟩, hx, hk⟩ := of_bind hk
        refine j_cv0 (pc' := 92) (LQ_setNights hx) cv_RX8_132 ⟨le_b rfl, le_b rfl⟩ (hp_e rfl) rfl rfl (le_b rfl) ⟨rfl, rfl⟩ ⟨le_b rfl, le_b rfl⟩ rfl rfl dX8_change_89 ?_
        refine j_iconst (pc' := 93) (v := 0) rfl rfl dX8_change_92 ?_
        obtain rfl := Option.some.inj hk
        exact j_iret rfl ⟨rfl, rfl⟩ dX8_change_93 hP
      · have hk := (if_neg c16).symm.trans hk
        refine j_iload (pc' := 52) rfl rfl dX8_change_50 ?_
        obtain rfl := Option.some.inj hk
        exact j_iret rfl ⟨rfl, rfl⟩ dX8_change_52 hP
    · have hk := (if_pos c17).symm.trans hk
      refine j_bipush (pc' := 25) (v := 6) rfl rfl dX8_change_23 ?_
      obtain rfl := Option.some.inj hk
      exact j_iret rfl ⟨rfl, rfl⟩ dX8_change_25 hP
theorem LG_change {σ σ' : Mem} {x1 : Int32} {x2 : Int32} {x3 : Int32} {r : Int32} (hk : kG_change σ x1 x2 x3 = some (r, σ')) : M l D dA H0 yX8_change YG_change [vR (some (1, 0)), vI x1, vI x2, vI x3] (hp σ) (fun x h' => x = some (vI r) ∧ h' = hp σ') :=
  m_of (j := 2) (by decide) rfl (fun hh => by cases hh) ⟨fun _ _ => trivial, rfl⟩ (le_b rfl) (qG_change hk ⟨rfl, rfl⟩)
theorem qG_come {σ : Mem} {x1 : Int32} {o2 : Option AV} {res : Int32 × Mem} (hk : kG_come σ x1 = some res) (hP : Po (some (vI res.1)) (hp res.2)) : J l D dA H0 YG_come h0 Po 0 0 (hp σ) 0 [some (vR (some (1, 0))), some (vI x1), o2] [] := by
  unfold kG_come at hk
  refine j_aload_n (pc' := 1) rfl rfl dX8_come_0 ?_
  refine j_getf (pc' := 4) fg_RX8_19 (hp_e rfl) rfl rfl dX8_come_1 ?_
  refine j_iload_n (pc' := 5) rfl rfl dX8_come_4 ?_
  obtain ⟨⟨r1, σ2⟩, hx, hk⟩ := of_bind hk
  refine j_cv1 (pc' := 8) (LB_at hx) cv_RX8_140 ⟨le_b rfl, le_b rfl⟩ (hp_e rfl) rfl rfl (le_b rfl) ⟨rfl, rfl⟩ ⟨le_b rfl, le_b rfl⟩ rfl rfl dX8_come_5 ?_
  refine j_astore_n (pc' := 9) (lt_b rfl) rfl rfl dX8_come_8 ?_
  refine j_aload_n (pc' := 10) rfl rfl dX8_come_9 ?_
  rcases of_elim hk with ⟨hr, hk⟩ | ⟨j3, hr, hk⟩
  · subst hr
    refine j_ifnull (pc' := 13) (tg := 31) rfl rfl dX8_come_10 (fun _ => ?_) (fun _ hh => by cases hh)
    refine j_iconst (pc' := 32) (v := 0) rfl rfl dX8_come_31 ?_
    obtain rfl := Option.some.inj hk
    exact j_zret rfl rfl ⟨rfl, rfl⟩ dX8_come_32 hP
  · subst hr
    refine j_ifnull (pc' := 13) (tg := 31) rfl rfl dX8_come_10 (fun hh => by cases hh) (fun _ _ => ?_)
    refine j_aload_n (pc' := 14) rfl rfl dX8_come_13 ?_
    obtain ⟨⟨r4, σ5⟩, hx, hk⟩ := of_bind hk
    refine j_cv1 (pc' := 17) (LQ_isAhead hx) cv_RX8_151 ⟨le_b rfl, le_b rfl⟩ (hp_e rfl) rfl rfl (le_b rfl) ⟨rfl, rfl⟩ ⟨le_b rfl, le_b rfl⟩ rfl rfl dX8_come_14 ?_
    refine j_if_eq (pc' := 20) (tg := 31) rfl rfl dX8_come_17 (fun c9 => ?_) (fun c9 => ?_)
    · have hk := (if_pos c9).symm.trans hk
      refine j_iconst (pc' := 32) (v := 0) rfl rfl dX8_come_31 ?_
      obtain rfl := Option.some.inj hk
      exact j_zret rfl rfl ⟨rfl, rfl⟩ dX8_come_32 hP
    · have hk := (if_neg c9).symm.trans hk
      refine j_aload_n (pc' := 21) rfl rfl dX8_come_20 ?_
      refine j_getf (pc' := 24) fg_RX8_161 (hp_e rfl) rfl rfl dX8_come_21 ?_
      refine j_aload_n (pc' := 25) rfl rfl dX8_come_24 ?_
      refine j_getf (pc' := 28) fg_RX8_120 (hp_e rfl) rfl rfl dX8_come_25 ?_
      refine j_ic_eq (pc' := 31) (tg := 33) rfl rfl dX8_come_28 (fun c8 => ?_) (fun c8 => ?_)
      · have hk := (if_pos c8).symm.trans hk
        refine j_aload_n (pc' := 34) rfl rfl dX8_come_33 ?_
        refine j_aload_n (pc' := 35) rfl rfl dX8_come_34 ?_
        refine j_iconst (pc' := 36) (v := 2) rfl rfl dX8_come_35 ?_
        obtain ⟨⟨_, σ7⟩, hx, hk⟩ := of_bind hk
        refine j_cv0 (pc' := 39) (LG_setState hx) cv_RX8_147 ⟨le_b rfl, le_b rfl⟩ (hp_e rfl) rfl rfl (le_b rfl) ⟨rfl, rfl⟩ ⟨le_b rfl, le_b rfl⟩ rfl rfl dX8_come_36 ?_
        refine j_iconst (pc' := 40) (v := 1) rfl rfl dX8_come_39 ?_
        obtain rfl := Option.some.inj hk
        exact j_zret rfl rfl ⟨rfl, rfl⟩ dX8_come_40 hP
      · have hk := (if_neg c8).symm.trans hk
        refine j_iconst (pc' := 32) (v := 0) rfl rfl dX8_come_31 ?_
        obtain rfl := Option.some.inj hk
        exact j_zret rfl rfl ⟨rfl, rfl⟩ dX8_come_32 hP
theorem LG_come {σ σ' : Mem} {x1 : Int32} {r : Int32} (hk : kG_come σ x1 = some (r, σ')) : M l D dA H0 yX8_come YG_come [vR (some (1, 0)), vI x1] (hp σ) (fun x h' => x = some (vI r) ∧ h' = hp σ') :=
  m_of (j := 1) (by decide) rfl (fun hh => by cases hh) ⟨fun _ _ => trivial, rfl⟩ (le_b rfl) (qG_come hk ⟨rfl, rfl⟩)
theorem qG_planUpTo_s5 {σ : Mem} {x1 : Int32} {x2 : Int32} {out : (Int32 × Mem) ⊕ (Mem)} (hk : kG_planUpTo_s5 x1 (x2, σ) = some out) (hc : ∀ (z2 : Int32) (ς : Mem), out = .inl (z2, ς) → ∀ (_ : Unit), J l D dA H0 YG_planUpTo h0 Po 0 0 (hp ς) 5 [some (vR (some (1, 0))), some (vI x1), some (vI z2)] []) (hx0 : ∀ (ς : Mem), out = .inr ς → ∀ (o0 o1 o2 : Option AV), J l D dA H0 YG_planUpTo h0 Po 0 0 (hp ς) 37 [o0, o1, o2] []) : J l D dA H0 YG_planUpTo h0 Po 0 0 (hp σ) 5 [some (vR (some (1, 0))), some (vI x1), some (vI x2)] [] := by
  unfold kG_planUpTo_s5 at hk
  refine j_iload_n (pc' := 6) rfl rfl dX8_planUpTo_5 ?_
  refine j_iload_n (pc' := 7) rfl rfl dX8_planUpTo_6 ?_
  refine j_ic_gt (pc' := 10) (tg := 37) rfl rfl dX8_planUpTo_7 (fun c4 => ?_) (fun c4 => ?_)
  · have hk := (if_pos c4).symm.trans hk
    obtain rfl := Option.some.inj hk
    exact hx0 _ rfl _ _ _
  · have hk := (if_neg c4).symm.trans hk
    refine j_iload_n (pc' := 11) rfl rfl dX8_planUpTo_10 ?_
    refine j_bipush (pc' := 13) (v := 60) rfl rfl dX8_planUpTo_11 ?_
    refine j_ic_ge (pc' := 16) (tg := 37) rfl rfl dX8_planUpTo_13 (fun c3 => ?_) (fun c3 => ?_)
    · have hk := (if_pos c3).symm.trans hk
      obtain rfl := Option.some.inj hk
      exact hx0 _ rfl _ _ _
    · have hk := (if_neg c3).symm.trans hk
      refine j_aload_n (pc' := 17) rfl rfl dX8_planUpTo_16 ?_
      refine j_getf (pc' := 20) fg_RX8_37 (hp_e rfl) rfl rfl dX8_planUpTo_17 ?_
      refine j_iload_n (pc' := 21) rfl rfl dX8_planUpTo_20 ?_
      obtain ⟨⟨_, σ2⟩, hx, hk⟩ := of_bind hk
      refine j_cv0 (pc' := 24) (LP_makeNight hx) cv_RX8_303 ⟨le_b rfl, le_b rfl⟩ (hp_e rfl) rfl rfl (le_b rfl) ⟨rfl, rfl⟩ ⟨le_b rfl, le_b rfl⟩ rfl rfl dX8_planUpTo_21 ?_
      refine j_aload_n (pc' := 25) rfl rfl dX8_planUpTo_24 ?_
      refine j_iload_n (pc' := 26) rfl rfl dX8_planUpTo_25 ?_
      refine j_iconst (pc' := 27) (v := 1) rfl rfl dX8_planUpTo_26 ?_
      refine j_iadd (pc' := 28) rfl dX8_planUpTo_27 ?_
      refine j_pi (pc' := 31) (ty := .int) fg_RX8_176 ttX8 rfl rfl ⟨rfl, rfl⟩ rfl (lt_b rfl) rfl rfl dX8_planUpTo_28 ?_
      refine j_iinc (pc' := 34) (v := x2 + 1) rfl rfl (lt_b rfl) rfl rfl dX8_planUpTo_31 ?_
      refine j_goto (tg := 5) rfl dX8_planUpTo_34 ?_
      obtain rfl := Option.some.inj hk
      exact hc _ _ rfl ()
theorem lG_planUpTo_s5 {x1 : Int32} : ∀ (n : Nat) (x2 : Int32) (σ : Mem) (e : (Mem)), loopF n (kG_planUpTo_s5 x1) (x2, σ) = some e → (∀ (ς : Mem), e = ς → ∀ (o0 o1 o2 : Option AV), J l D dA H0 YG_planUpTo h0 Po 0 0 (hp ς) 37 [o0, o1, o2] []) → ∀ (_ : Unit), J l D dA H0 YG_planUpTo h0 Po 0 0 (hp σ) 5 [some (vR (some (1, 0))), some (vI x1), some (vI x2)] []
  | 0, x2, σ, e, he => by cases he
  | n + 1, x2, σ, e, he => by
    intro hx0 u
    rcases loopF_succ he with ⟨s', h1, h2⟩ | h1
    · refine qG_planUpTo_s5 h1 ?_ ?_
      · intro z2 ς ee
        cases ee
        exact lG_planUpTo_s5 n z2 ς e h2 hx0
      · intro ς ee
        cases ee
    · refine qG_planUpTo_s5 h1 ?_ ?_
      · intro z2 ς ee
        cases ee
      · intro ς ee
        exact hx0 ς (Sum.inr.inj ee)
theorem qG_planUpTo_x37 {σ : Mem} {o0 : Option AV} {o1 : Option AV} {o2 : Option AV} {res : Unit × Mem} (hk : kG_planUpTo_x37 σ = some res) (hP : Po none (hp res.2)) : J l D dA H0 YG_planUpTo h0 Po 0 0 (hp σ) 37 [o0, o1, o2] [] := by
  unfold kG_planUpTo_x37 at hk
  obtain rfl := Option.some.inj hk
  exact j_ret rfl ⟨rfl, rfl⟩ dX8_planUpTo_37 hP
theorem qG_planUpTo {σ : Mem} {x1 : Int32} {o2 : Option AV} {res : Unit × Mem} (hk : kG_planUpTo σ x1 = some res) (hP : Po none (hp res.2)) : J l D dA H0 YG_planUpTo h0 Po 0 0 (hp σ) 0 [some (vR (some (1, 0))), some (vI x1), o2] [] := by
  unfold kG_planUpTo at hk
  refine j_aload_n (pc' := 1) rfl rfl dX8_planUpTo_0 ?_
  refine j_getf (pc' := 4) fg_RX8_176 (hp_e rfl) rfl rfl dX8_planUpTo_1 ?_
  refine j_istore_n (pc' := 5) (lt_b rfl) rfl rfl dX8_planUpTo_4 ?_
  obtain ⟨e, he, hk⟩ := of_bind hk
  refine lG_planUpTo_s5 FU _ _ e he ?_ ()
  · intro ς ee _ _ _
    subst ee
    exact qG_planUpTo_x37 hk hP
theorem LG_planUpTo {σ σ' : Mem} {x1 : Int32} {r : Unit} (hk : kG_planUpTo σ x1 = some (r, σ')) : M l D dA H0 yX8_planUpTo YG_planUpTo [vR (some (1, 0)), vI x1] (hp σ) (fun x h' => x = none ∧ h' = hp σ') :=
  m_of (j := 1) (by decide) rfl (fun hh => by cases hh) ⟨fun _ _ => trivial, rfl⟩ (le_b rfl) (qG_planUpTo hk ⟨rfl, rfl⟩)
theorem qG_next {σ : Mem} {o1 : Option AV} {res : Int32 × Mem} (hk : kG_next σ = some res) (hP : Po (some (vI res.1)) (hp res.2)) : J l D dA H0 YG_next h0 Po 0 0 (hp σ) 0 [some (vR (some (1, 0))), o1] [] := by
  unfold kG_next at hk
  refine j_aload_n (pc' := 1) rfl rfl dX8_next_0 ?_
  refine j_getf (pc' := 4) fg_RX8_120 (hp_e rfl) rfl rfl dX8_next_1 ?_
  refine j_bipush (pc' := 6) (v := 59) rfl rfl dX8_next_4 ?_
  refine j_ic_lt (pc' := 9) (tg := 11) rfl rfl dX8_next_6 (fun c11 => ?_) (fun c11 => ?_)
  · have hk := (if_pos c11).symm.trans hk
    refine j_aload_n (pc' := 12) rfl rfl dX8_next_11 ?_
    refine j_getf (pc' := 15) fg_RX8_19 (hp_e rfl) rfl rfl dX8_next_12 ?_
    refine j_aload_n (pc' := 16) rfl rfl dX8_next_15 ?_
    refine j_getf (pc' := 19) fg_RX8_120 (hp_e rfl) rfl rfl dX8_next_16 ?_
    obtain ⟨⟨_, σ2⟩, hx, hk⟩ := of_bind hk
    refine j_cv0 (pc' := 22) (LB_missNight hx) cv_RX8_164 ⟨le_b rfl, le_b rfl⟩ (hp_e rfl) rfl rfl (le_b rfl) ⟨rfl, rfl⟩ ⟨le_b rfl, le_b rfl⟩ rfl rfl dX8_next_19 ?_
    refine j_aload_n (pc' := 23) rfl rfl dX8_next_22 ?_
    refine j_aload_n (pc' := 24) rfl rfl dX8_next_23 ?_
    refine j_getf (pc' := 27) fg_RX8_120 (hp_e rfl) rfl rfl dX8_next_24 ?_
    obtain ⟨⟨_, σ4⟩, hx, hk⟩ := of_bind hk
    refine j_cv0 (pc' := 30) (LG_replanFrom hx) cv_RX8_61 ⟨le_b rfl, le_b rfl⟩ (hp_e rfl) rfl rfl (le_b rfl) ⟨rfl, rfl⟩ ⟨le_b rfl, le_b rfl⟩ rfl rfl dX8_next_27 ?_
    refine j_aload_n (pc' := 31) rfl rfl dX8_next_30 ?_
    refine j_aload_n (pc' := 32) rfl rfl dX8_next_31 ?_
    refine j_getf (pc' := 35) fg_RX8_120 (hp_e rfl) rfl rfl dX8_next_32 ?_
    obtain ⟨⟨_, σ6⟩, hx, hk⟩ := of_bind hk
    refine j_cv0 (pc' := 38) (LG_planUpTo hx) cv_RX8_167 ⟨le_b rfl, le_b rfl⟩ (hp_e rfl) rfl rfl (le_b rfl) ⟨rfl, rfl⟩ ⟨le_b rfl, le_b rfl⟩ rfl rfl dX8_next_35 ?_
    refine j_aload_n (pc' := 39) rfl rfl dX8_next_38 ?_
    refine j_getf (pc' := 42) fg_RX8_19 (hp_e rfl) rfl rfl dX8_next_39 ?_
    refine j_aload_n (pc' := 43) rfl rfl dX8_next_42 ?_
    refine j_getf (pc' := 46) fg_RX8_120 (hp_e rfl) rfl rfl dX8_next_43 ?_
    obtain ⟨⟨r7, σ8⟩, hx, hk⟩ := of_bind hk
    refine j_cv1 (pc' := 49) (LB_walkFrom hx) cv_RX8_170 ⟨le_b rfl, le_b rfl⟩ (hp_e rfl) rfl rfl (le_b rfl) ⟨rfl, rfl⟩ ⟨le_b rfl, le_b rfl⟩ rfl rfl dX8_next_46 ?_
    refine j_istore_n (pc' := 50) (lt_b rfl) rfl rfl dX8_next_49 ?_
    refine j_aload_n (pc' := 51) rfl rfl dX8_next_50 ?_
    refine j_dup (pc' := 52) rfl rfl dX8_next_51 ?_
    refine j_getf (pc' := 55) fg_RX8_120 (hp_e rfl) rfl rfl dX8_next_52 ?_
    refine j_iconst (pc' := 56) (v := 1) rfl rfl dX8_next_55 ?_
    refine j_iadd (pc' := 57) rfl dX8_next_56 ?_
    refine j_pi (pc' := 60) (ty := .int) fg_RX8_120 ttX8 rfl rfl ⟨rfl, rfl⟩ rfl (lt_b rfl) rfl rfl dX8_next_57 ?_
    refine j_aload_n (pc' := 61) rfl rfl dX8_next_60 ?_
    refine j_getf (pc' := 64) fg_RX8_19 (hp_e rfl) rfl rfl dX8_next_61 ?_
    refine j_aload_n (pc' := 65) rfl rfl dX8_next_64 ?_
    refine j_getf (pc' := 68) fg_RX8_120 (hp_e rfl) rfl rfl dX8_next_65 ?_
    obtain ⟨⟨_, σ10⟩, hx, hk⟩ := of_bind hk
    refine j_cv0 (pc' := 71) (LB_turnTo hx) cv_RX8_173 ⟨le_b rfl, le_b rfl⟩ (hp_e rfl) rfl rfl (le_b rfl) ⟨rfl, rfl⟩ ⟨le_b rfl, le_b rfl⟩ rfl rfl dX8_next_68 ?_
    refine j_aload_n (pc' := 72) rfl rfl dX8_next_71 ?_
    refine j_aload_n (pc' := 73) rfl rfl dX8_next_72 ?_
    refine j_getf (pc' := 76) fg_RX8_120 (hp_e rfl) rfl rfl dX8_next_73 ?_
    refine j_pi (pc' := 79) (ty := .int) fg_RX8_176 ttX8 rfl rfl ⟨rfl, rfl⟩ rfl (lt_b rfl) rfl rfl dX8_next_76 ?_
    refine j_iload_n (pc' := 80) rfl rfl dX8_next_79 ?_
    obtain rfl := Option.some.inj hk
    exact j_iret rfl ⟨rfl, rfl⟩ dX8_next_80 hP
  · have hk := (if_neg c11).symm.trans hk
    refine j_iconst (pc' := 10) (v := (-1)) rfl rfl dX8_next_9 ?_
    obtain rfl := Option.some.inj hk
    exact j_iret rfl ⟨rfl, rfl⟩ dX8_next_10 hP
theorem LG_next {σ σ' : Mem} {r : Int32} (hk : kG_next σ = some (r, σ')) : M l D dA H0 yX8_next YG_next [vR (some (1, 0))] (hp σ) (fun x h' => x = some (vI r) ∧ h' = hp σ') :=
  m_of (j := 1) (by decide) rfl (fun hh => by cases hh) ⟨fun _ _ => trivial, rfl⟩ (le_b rfl) (qG_next hk ⟨rfl, rfl⟩)
theorem qG_promised {σ : Mem} {x1 : Int32} {x2 : Int32} {o3 : Option AV} {res : Int64 × Mem} (hk : kG_promised σ x1 x2 = some res) (hP : Po (some (vL res.1)) (hp res.2)) : J l D dA H0 YG_promised h0 Po 0 0 (hp σ) 0 [some (vR (some (1, 0))), some (vI x1), some (vI x2), o3] [] := by
  unfold kG_promised at hk
  refine j_aload_n (pc' := 1) rfl rfl dX8_promised_0 ?_
  refine j_getf (pc' := 4) fg_RX8_19 (hp_e rfl) rfl rfl dX8_promised_1 ?_
  refine j_iload_n (pc' := 5) rfl rfl dX8_promised_4 ?_
  obtain ⟨⟨r1, σ2⟩, hx, hk⟩ := of_bind hk
  refine j_cv1 (pc' := 8) (LB_at hx) cv_RX8_140 ⟨le_b rfl, le_b rfl⟩ (hp_e rfl) rfl rfl (le_b rfl) ⟨rfl, rfl⟩ ⟨le_b rfl, le_b rfl⟩ rfl rfl dX8_promised_5 ?_
  refine j_astore_n (pc' := 9) (lt_b rfl) rfl rfl dX8_promised_8 ?_
  refine j_aload_n (pc' := 10) rfl rfl dX8_promised_9 ?_
  rcases of_elim hk with ⟨hr, hk⟩ | ⟨j3, hr, hk⟩
  · subst hr
    refine j_ifnonnull (pc' := 13) (tg := 23) rfl rfl dX8_promised_10 (fun _ hh => by cases hh) (fun _ => ?_)
    cases hk
  · subst hr
    refine j_ifnonnull (pc' := 13) (tg := 23) rfl rfl dX8_promised_10 (fun _ _ => ?_) (fun hh => by cases hh)
    refine j_iload_n (pc' := 24) rfl rfl dX8_promised_23 ?_
    by_cases cw0 : x2 = 0
    · have hk := (if_pos cw0).symm.trans hk
      refine j_tin (off := 52) (tg := 76) cw0 (by decide) dX8_promised_24 ?_
      refine j_aload_n (pc' := 77) rfl rfl dX8_promised_76 ?_
      refine j_getf (pc' := 80) fg_RX8_144 (hp_e rfl) rfl rfl dX8_promised_77 ?_
      refine j_i2l (pc' := 81) rfl dX8_promised_80 ?_
      obtain rfl := Option.some.inj hk
      exact j_lret rfl ⟨rfl, rfl⟩ dX8_promised_81 hP
    have hk := (if_neg cw0).symm.trans hk
    by_cases cw1 : x2 = 1
    · have hk := (if_pos cw1).symm.trans hk
      refine j_tin (off := 58) (tg := 82) cw1 (by decide) dX8_promised_24 ?_
      refine j_aload_n (pc' := 83) rfl rfl dX8_promised_82 ?_
      refine j_getf (pc' := 86) fg_RX8_155 (hp_e rfl) rfl rfl dX8_promised_83 ?_
      refine j_i2l (pc' := 87) rfl dX8_promised_86 ?_
      obtain rfl := Option.some.inj hk
      exact j_lret rfl ⟨rfl, rfl⟩ dX8_promised_87 hP
    have hk := (if_neg cw1).symm.trans hk
    by_cases cw2 : x2 = 2
    · have hk := (if_pos cw2).symm.trans hk
      refine j_tin (off := 64) (tg := 88) cw2 (by decide) dX8_promised_24 ?_
      refine j_aload_n (pc' := 89) rfl rfl dX8_promised_88 ?_
      refine j_getf (pc' := 92) fg_RX8_158 (hp_e rfl) rfl rfl dX8_promised_89 ?_
      refine j_i2l (pc' := 93) rfl dX8_promised_92 ?_
      obtain rfl := Option.some.inj hk
      exact j_lret rfl ⟨rfl, rfl⟩ dX8_promised_93 hP
    have hk := (if_neg cw2).symm.trans hk
    by_cases cw3 : x2 = 3
    · have hk := (if_pos cw3).symm.trans hk
      refine j_tin (off := 70) (tg := 94) cw3 (by decide) dX8_promised_24 ?_
      refine j_aload_n (pc' := 95) rfl rfl dX8_promised_94 ?_
      refine j_getf (pc' := 98) fg_RX8_161 (hp_e rfl) rfl rfl dX8_promised_95 ?_
      refine j_i2l (pc' := 99) rfl dX8_promised_98 ?_
      obtain rfl := Option.some.inj hk
      exact j_lret rfl ⟨rfl, rfl⟩ dX8_promised_99 hP
    have hk := (if_neg cw3).symm.trans hk
    by_cases cw4 : x2 = 4
    · have hk := (if_pos cw4).symm.trans hk
      refine j_tin (off := 76) (tg := 100) cw4 (by decide) dX8_promised_24 ?_
      refine j_aload_n (pc' := 101) rfl rfl dX8_promised_100 ?_
      refine j_getf (pc' := 104) fg_RX8_186 (hp_e rfl) rfl rfl dX8_promised_101 ?_
      refine j_i2l (pc' := 105) rfl dX8_promised_104 ?_
      obtain rfl := Option.some.inj hk
      exact j_lret rfl ⟨rfl, rfl⟩ dX8_promised_105 hP
    have hk := (if_neg cw4).symm.trans hk
    by_cases cw5 : x2 = 5
    · have hk := (if_pos cw5).symm.trans hk
      refine j_tin (off := 82) (tg := 106) cw5 (by decide) dX8_promised_24 ?_
      refine j_aload_n (pc' := 107) rfl rfl dX8_promised_106 ?_
      refine j_getf (pc' := 110) fg_RX8_189 (hp_e rfl) rfl rfl dX8_promised_107 ?_
      refine j_i2l (pc' := 111) rfl dX8_promised_110 ?_
      obtain rfl := Option.some.inj hk
      exact j_lret rfl ⟨rfl, rfl⟩ dX8_promised_111 hP
    have hk := (if_neg cw5).symm.trans hk
    by_cases cw6 : x2 = 6
    · have hk := (if_pos cw6).symm.trans hk
      refine j_tin (off := 88) (tg := 112) cw6 (by decide) dX8_promised_24 ?_
      refine j_aload_n (pc' := 113) rfl rfl dX8_promised_112 ?_
      refine j_getf (pc' := 116) fg_RX8_192 (hp_e rfl) rfl rfl dX8_promised_113 ?_
      obtain rfl := Option.some.inj hk
      exact j_lret rfl ⟨rfl, rfl⟩ dX8_promised_116 hP
    have hk := (if_neg cw6).symm.trans hk
    by_cases cw7 : x2 = 7
    · have hk := (if_pos cw7).symm.trans hk
      refine j_tin (off := 93) (tg := 117) cw7 (by decide) dX8_promised_24 ?_
      refine j_aload_n (pc' := 118) rfl rfl dX8_promised_117 ?_
      refine j_aload_n (pc' := 119) rfl rfl dX8_promised_118 ?_
      refine j_getf (pc' := 122) fg_RX8_120 (hp_e rfl) rfl rfl dX8_promised_119 ?_
      obtain ⟨⟨r4, σ5⟩, hx, hk⟩ := of_bind hk
      refine j_cv1 (pc' := 125) (LQ_nightsHad hx) cv_RX8_196 ⟨le_b rfl, le_b rfl⟩ (hp_e rfl) rfl rfl (le_b rfl) ⟨rfl, rfl⟩ ⟨le_b rfl, le_b rfl⟩ rfl rfl dX8_promised_122 ?_
      refine j_i2l (pc' := 126) rfl dX8_promised_125 ?_
      obtain rfl := Option.some.inj hk
      exact j_lret rfl ⟨rfl, rfl⟩ dX8_promised_126 hP
    have hk := (if_neg cw7).symm.trans hk
    by_cases cw8 : x2 = 8
    · have hk := (if_pos cw8).symm.trans hk
      refine j_tin (off := 103) (tg := 127) cw8 (by decide) dX8_promised_24 ?_
      refine j_aload_n (pc' := 128) rfl rfl dX8_promised_127 ?_
      refine j_iconst (pc' := 129) (v := 0) rfl rfl dX8_promised_128 ?_
      refine j_aload_n (pc' := 130) rfl rfl dX8_promised_129 ?_
      refine j_getf (pc' := 133) fg_RX8_120 (hp_e rfl) rfl rfl dX8_promised_130 ?_
      obtain ⟨⟨r6, σ7⟩, hx, hk⟩ := of_bind hk
      refine j_cv1 (pc' := 136) (LQ_movesIn hx) cv_RX8_199 ⟨le_b rfl, le_b rfl⟩ (hp_e rfl) rfl rfl (le_b rfl) ⟨rfl, rfl⟩ ⟨le_b rfl, le_b rfl⟩ rfl rfl dX8_promised_133 ?_
      refine j_i2l (pc' := 137) rfl dX8_promised_136 ?_
      obtain rfl := Option.some.inj hk
      exact j_lret rfl ⟨rfl, rfl⟩ dX8_promised_137 hP
    have hk := (if_neg cw8).symm.trans hk
    refine j_tout (tg := 138) (by have h0 : _ ≠ (0 : Int) := i32ne cw0; have h1 : _ ≠ (1 : Int) := i32ne cw1; have h2 : _ ≠ (2 : Int) := i32ne cw2; have h3 : _ ≠ (3 : Int) := i32ne cw3; have h4 : _ ≠ (4 : Int) := i32ne cw4; have h5 : _ ≠ (5 : Int) := i32ne cw5; have h6 : _ ≠ (6 : Int) := i32ne cw6; have h7 : _ ≠ (7 : Int) := i32ne cw7; have h8 : _ ≠ (8 : Int) := i32ne cw8; omega) rfl dX8_promised_24 ?_
    cases hk
theorem LG_promised {σ σ' : Mem} {x1 : Int32} {x2 : Int32} {r : Int64} (hk : kG_promised σ x1 x2 = some (r, σ')) : M l D dA H0 yX8_promised YG_promised [vR (some (1, 0)), vI x1, vI x2] (hp σ) (fun x h' => x = some (vL r) ∧ h' = hp σ') :=
  m_of (j := 1) (by decide) rfl (fun hh => by cases hh) ⟨fun _ _ => trivial, rfl⟩ (le_b rfl) (qG_promised hk ⟨rfl, rfl⟩)
theorem qG_spot {σ : Mem} {x1 : Int32} {x2 : Int32} {o3 : Option AV} {res : Int32 × Mem} (hk : kG_spot σ x1 x2 = some res) (hP : Po (some (vI res.1)) (hp res.2)) : J l D dA H0 YG_spot h0 Po 0 0 (hp σ) 0 [some (vR (some (1, 0))), some (vI x1), some (vI x2), o3] [] := by
  unfold kG_spot at hk
  refine j_aload_n (pc' := 1) rfl rfl dX8_spot_0 ?_
  refine j_getf (pc' := 4) fg_RX8_19 (hp_e rfl) rfl rfl dX8_spot_1 ?_
  refine j_iload_n (pc' := 5) rfl rfl dX8_spot_4 ?_
  obtain ⟨⟨r1, σ2⟩, hx, hk⟩ := of_bind hk
  refine j_cv1 (pc' := 8) (LB_at hx) cv_RX8_140 ⟨le_b rfl, le_b rfl⟩ (hp_e rfl) rfl rfl (le_b rfl) ⟨rfl, rfl⟩ ⟨le_b rfl, le_b rfl⟩ rfl rfl dX8_spot_5 ?_
  refine j_astore_n (pc' := 9) (lt_b rfl) rfl rfl dX8_spot_8 ?_
  refine j_aload_n (pc' := 10) rfl rfl dX8_spot_9 ?_
  rcases of_elim hk with ⟨hr, hk⟩ | ⟨j3, hr, hk⟩
  · subst hr
    refine j_ifnull (pc' := 13) (tg := 20) rfl rfl dX8_spot_10 (fun _ => ?_) (fun _ hh => by cases hh)
    refine j_iconst (pc' := 21) (v := (-1)) rfl rfl dX8_spot_20 ?_
    obtain rfl := Option.some.inj hk
    exact j_iret rfl ⟨rfl, rfl⟩ dX8_spot_21 hP
  · subst hr
    refine j_ifnull (pc' := 13) (tg := 20) rfl rfl dX8_spot_10 (fun hh => by cases hh) (fun _ _ => ?_)
    refine j_iload_n (pc' := 14) rfl rfl dX8_spot_13 ?_
    obtain ⟨⟨r4, σ5⟩, hx, hk⟩ := of_bind hk
    refine j_cs1 (pc' := 17) (LG_isNight hx) cs_RX8_110 ⟨le_b rfl, le_b rfl⟩ rfl (le_b rfl) ⟨rfl, rfl⟩ ⟨le_b rfl, le_b rfl⟩ rfl rfl dX8_spot_14 ?_
    refine j_if_ne (pc' := 20) (tg := 22) rfl rfl dX8_spot_17 (fun c10 => ?_) (fun c10 => ?_)
    · have hk := (if_neg c10).symm.trans hk
      refine j_aload_n (pc' := 23) rfl rfl dX8_spot_22 ?_
      refine j_iload_n (pc' := 24) rfl rfl dX8_spot_23 ?_
      obtain ⟨⟨_, σ7⟩, hx, hk⟩ := of_bind hk
      refine j_cv0 (pc' := 27) (LG_planUpTo hx) cv_RX8_167 ⟨le_b rfl, le_b rfl⟩ (hp_e rfl) rfl rfl (le_b rfl) ⟨rfl, rfl⟩ ⟨le_b rfl, le_b rfl⟩ rfl rfl dX8_spot_24 ?_
      refine j_aload_n (pc' := 28) rfl rfl dX8_spot_27 ?_
      refine j_iload_n (pc' := 29) rfl rfl dX8_spot_28 ?_
      obtain ⟨⟨r8, σ9⟩, hx, hk⟩ := of_bind hk
      refine j_cv1 (pc' := 32) (LQ_spotIn hx) cv_RX8_205 ⟨le_b rfl, le_b rfl⟩ (hp_e rfl) rfl rfl (le_b rfl) ⟨rfl, rfl⟩ ⟨le_b rfl, le_b rfl⟩ rfl rfl dX8_spot_29 ?_
      obtain rfl := Option.some.inj hk
      exact j_iret rfl ⟨rfl, rfl⟩ dX8_spot_32 hP
    · have hk := (if_pos c10).symm.trans hk
      refine j_iconst (pc' := 21) (v := (-1)) rfl rfl dX8_spot_20 ?_
      obtain rfl := Option.some.inj hk
      exact j_iret rfl ⟨rfl, rfl⟩ dX8_spot_21 hP
theorem LG_spot {σ σ' : Mem} {x1 : Int32} {x2 : Int32} {r : Int32} (hk : kG_spot σ x1 x2 = some (r, σ')) : M l D dA H0 yX8_spot YG_spot [vR (some (1, 0)), vI x1, vI x2] (hp σ) (fun x h' => x = some (vI r) ∧ h' = hp σ') :=
  m_of (j := 1) (by decide) rfl (fun hh => by cases hh) ⟨fun _ _ => trivial, rfl⟩ (le_b rfl) (qG_spot hk ⟨rfl, rfl⟩)
theorem qG_moves_s10 {σ : Mem} {x1 : Int32} {x2 : Int32} {o3 : Option AV} {out : (Int32 × Int32 × Mem) ⊕ (Int32 × Mem)} (hk : kG_moves_s10 (x1, x2, σ) = some out) (hc : ∀ (z1 : Int32) (z2 : Int32) (ς : Mem), out = .inl (z1, z2, ς) → ∀ (o3 : Option AV), J l D dA H0 YG_moves h0 Po 0 0 (hp ς) 10 [some (vR (some (1, 0))), some (vI z1), some (vI z2), o3] []) (hx0 : ∀ (z1 : Int32) (ς : Mem), out = .inr (z1, ς) → ∀ (o0 o2 o3 : Option AV), J l D dA H0 YG_moves h0 Po 0 0 (hp ς) 53 [o0, some (vI z1), o2, o3] []) : J l D dA H0 YG_moves h0 Po 0 0 (hp σ) 10 [some (vR (some (1, 0))), some (vI x1), some (vI x2), o3] [] := by
  unfold kG_moves_s10 at hk
  refine j_iload_n (pc' := 11) rfl rfl dX8_moves_10 ?_
  refine j_aload_n (pc' := 12) rfl rfl dX8_moves_11 ?_
  refine j_getf (pc' := 15) fg_RX8_19 (hp_e rfl) rfl rfl dX8_moves_12 ?_
  refine j_getf (pc' := 18) fg_RX8_208 (hp_e rfl) rfl rfl dX8_moves_15 ?_
  refine j_ic_ge (pc' := 21) (tg := 53) rfl rfl dX8_moves_18 (fun c8 => ?_) (fun c8 => ?_)
  · have hk := (if_pos c8).symm.trans hk
    obtain rfl := Option.some.inj hk
    exact hx0 _ _ rfl _ _ _
  · have hk := (if_neg c8).symm.trans hk
    refine j_aload_n (pc' := 22) rfl rfl dX8_moves_21 ?_
    refine j_getf (pc' := 25) fg_RX8_19 (hp_e rfl) rfl rfl dX8_moves_22 ?_
    refine j_iload_n (pc' := 26) rfl rfl dX8_moves_25 ?_
    obtain ⟨⟨r3, σ4⟩, hx, hk⟩ := of_bind hk
    refine j_cv1 (pc' := 29) (LB_at hx) cv_RX8_140 ⟨le_b rfl, le_b rfl⟩ (hp_e rfl) rfl rfl (le_b rfl) ⟨rfl, rfl⟩ ⟨le_b rfl, le_b rfl⟩ rfl rfl dX8_moves_26 ?_
    refine j_astore_n (pc' := 30) (lt_b rfl) rfl rfl dX8_moves_29 ?_
    refine j_aload_n (pc' := 31) rfl rfl dX8_moves_30 ?_
    rcases of_elim hk with ⟨hr, hk⟩ | ⟨j5, hr, hk⟩
    · subst hr
      refine j_ifnull (pc' := 34) (tg := 47) rfl rfl dX8_moves_31 (fun _ => ?_) (fun _ hh => by cases hh)
      refine j_iinc (pc' := 50) (v := x2 + 1) rfl rfl (lt_b rfl) rfl rfl dX8_moves_47 ?_
      refine j_goto (tg := 10) rfl dX8_moves_50 ?_
      obtain rfl := Option.some.inj hk
      exact hc _ _ _ rfl _
    · subst hr
      refine j_ifnull (pc' := 34) (tg := 47) rfl rfl dX8_moves_31 (fun hh => by cases hh) (fun _ _ => ?_)
      refine j_iload_n (pc' := 35) rfl rfl dX8_moves_34 ?_
      refine j_aload_n (pc' := 36) rfl rfl dX8_moves_35 ?_
      refine j_aload_n (pc' := 37) rfl rfl dX8_moves_36 ?_
      refine j_getf (pc' := 40) fg_RX8_120 (hp_e rfl) rfl rfl dX8_moves_37 ?_
      refine j_bipush (pc' := 42) (v := 60) rfl rfl dX8_moves_40 ?_
      obtain ⟨⟨r6, σ7⟩, hx, hk⟩ := of_bind hk
      refine j_cv1 (pc' := 45) (LQ_movesIn hx) cv_RX8_199 ⟨le_b rfl, le_b rfl⟩ (hp_e rfl) rfl rfl (le_b rfl) ⟨rfl, rfl⟩ ⟨le_b rfl, le_b rfl⟩ rfl rfl dX8_moves_42 ?_
      refine j_iadd (pc' := 46) rfl dX8_moves_45 ?_
      refine j_istore_n (pc' := 47) (lt_b rfl) rfl rfl dX8_moves_46 ?_
      refine j_iinc (pc' := 50) (v := x2 + 1) rfl rfl (lt_b rfl) rfl rfl dX8_moves_47 ?_
      refine j_goto (tg := 10) rfl dX8_moves_50 ?_
      obtain rfl := Option.some.inj hk
      exact hc _ _ _ rfl _
theorem lG_moves_s10 : ∀ (n : Nat) (x1 : Int32) (x2 : Int32) (σ : Mem) (e : (Int32 × Mem)), loopF n (kG_moves_s10) (x1, x2, σ) = some e → (∀ (z1 : Int32) (ς : Mem), e = (z1, ς) → ∀ (o0 o2 o3 : Option AV), J l D dA H0 YG_moves h0 Po 0 0 (hp ς) 53 [o0, some (vI z1), o2, o3] []) → ∀ (o3 : Option AV), J l D dA H0 YG_moves h0 Po 0 0 (hp σ) 10 [some (vR (some (1, 0))), some (vI x1), some (vI x2), o3] []
  | 0, x1, x2, σ, e, he => by cases he
  | n + 1, x1, x2, σ, e, he => by
    intro hx0 o3
    rcases loopF_succ he with ⟨s', h1, h2⟩ | h1
    · refine qG_moves_s10 h1 ?_ ?_
      · intro z1 z2 ς ee
        cases ee
        exact lG_moves_s10 n z1 z2 ς e h2 hx0
      · intro z1 ς ee
        cases ee
    · refine qG_moves_s10 h1 ?_ ?_
      · intro z1 z2 ς ee
        cases ee
      · intro z1 ς ee
        exact hx0 z1 ς (Sum.inr.inj ee)
theorem qG_moves_x53 {σ : Mem} {x1 : Int32} {o0 : Option AV} {o2 : Option AV} {o3 : Option AV} {res : Int32 × Mem} (hk : kG_moves_x53 σ x1 = some res) (hP : Po (some (vI res.1)) (hp res.2)) : J l D dA H0 YG_moves h0 Po 0 0 (hp σ) 53 [o0, some (vI x1), o2, o3] [] := by
  unfold kG_moves_x53 at hk
  refine j_iload_n (pc' := 54) rfl rfl dX8_moves_53 ?_
  obtain rfl := Option.some.inj hk
  exact j_iret rfl ⟨rfl, rfl⟩ dX8_moves_54 hP
theorem qG_moves {σ : Mem} {o1 : Option AV} {o2 : Option AV} {o3 : Option AV} {res : Int32 × Mem} (hk : kG_moves σ = some res) (hP : Po (some (vI res.1)) (hp res.2)) : J l D dA H0 YG_moves h0 Po 0 0 (hp σ) 0 [some (vR (some (1, 0))), o1, o2, o3] [] := by
  unfold kG_moves at hk
  refine j_aload_n (pc' := 1) rfl rfl dX8_moves_0 ?_
  refine j_bipush (pc' := 3) (v := 59) rfl rfl dX8_moves_1 ?_
  obtain ⟨⟨_, σ2⟩, hx, hk⟩ := of_bind hk
  refine j_cv0 (pc' := 6) (LG_planUpTo hx) cv_RX8_167 ⟨le_b rfl, le_b rfl⟩ (hp_e rfl) rfl rfl (le_b rfl) ⟨rfl, rfl⟩ ⟨le_b rfl, le_b rfl⟩ rfl rfl dX8_moves_3 ?_
  refine j_iconst (pc' := 7) (v := 0) rfl rfl dX8_moves_6 ?_
  refine j_istore_n (pc' := 8) (lt_b rfl) rfl rfl dX8_moves_7 ?_
  refine j_iconst (pc' := 9) (v := 0) rfl rfl dX8_moves_8 ?_
  refine j_istore_n (pc' := 10) (lt_b rfl) rfl rfl dX8_moves_9 ?_
  obtain ⟨e, he, hk⟩ := of_bind hk
  refine lG_moves_s10 FU _ _ _ e he ?_ _
  · intro z1 ς ee _ _ _
    subst ee
    exact qG_moves_x53 hk hP
theorem LG_moves {σ σ' : Mem} {r : Int32} (hk : kG_moves σ = some (r, σ')) : M l D dA H0 yX8_moves YG_moves [vR (some (1, 0))] (hp σ) (fun x h' => x = some (vI r) ∧ h' = hp σ') :=
  m_of (j := 3) (by decide) rfl (fun hh => by cases hh) ⟨fun _ _ => trivial, rfl⟩ (le_b rfl) (qG_moves hk ⟨rfl, rfl⟩)
end LINK
