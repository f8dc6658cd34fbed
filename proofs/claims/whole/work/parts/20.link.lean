section LINK
variable {l : Launch} {D : va_G} {dA : Nat → ClassId} {H0 : Heap} {h0 : Hx} {Po : Option AV → Hp → Prop}
theorem qM_promised_j24 {σ : Mem} {x1 : Int32} {x2 : Int32} {y0 : Int32} {res : Int64 × Mem} (hk : kM_promised_j24 σ x1 x2 y0 = some res) (hP : Po (some (vL res.1)) (hp res.2)) : J l D dA H0 YM_promised h0 Po 0 0 (hp σ) 24 [some (vR (some (30, 0))), some (vI x1), some (vI x2)] [vI y0, vR (some (30, 0))] := by
  unfold kM_promised_j24 at hk
  refine j_pi (pc' := 27) (ty := .int) fg_RX9_1 ttX9 rfl rfl ⟨rfl, rfl⟩ rfl (lt_b rfl) rfl rfl dX9_promised_24 ?_
  refine j_aload_n (pc' := 28) rfl rfl dX9_promised_27 ?_
  refine j_getf (pc' := 31) fg_RX9_1 (hp_e rfl) rfl rfl dX9_promised_28 ?_
  refine j_if_le (pc' := 34) (tg := 36) rfl rfl dX9_promised_31 (fun c12 => ?_) (fun c12 => ?_)
  · have hk := (if_pos c12).symm.trans hk
    refine j_iload_n (pc' := 37) rfl rfl dX9_promised_36 ?_
    by_cases cw0 : x2 = 0
    · have hk := (if_pos cw0).symm.trans hk
      refine j_tin (off := 47) (tg := 84) cw0 (by decide) dX9_promised_37 ?_
      refine j_aload_n (pc' := 85) rfl rfl dX9_promised_84 ?_
      refine j_getf (pc' := 88) fg_RX9_37 (hp_e rfl) rfl rfl dX9_promised_85 ?_
      refine j_iload_n (pc' := 89) rfl rfl dX9_promised_88 ?_
      obtain ⟨g3, hk⟩ := of_ite hk
      refine j_iald (pc' := 90) (hp_e rfl) (inR_in g3) rfl dX9_promised_89 ?_
      refine j_i2l (pc' := 91) rfl dX9_promised_90 ?_
      obtain rfl := Option.some.inj hk
      exact j_lret rfl ⟨rfl, rfl⟩ dX9_promised_91 hP
    have hk := (if_neg cw0).symm.trans hk
    by_cases cw1 : x2 = 1
    · have hk := (if_pos cw1).symm.trans hk
      refine j_tin (off := 55) (tg := 92) cw1 (by decide) dX9_promised_37 ?_
      refine j_aload_n (pc' := 93) rfl rfl dX9_promised_92 ?_
      refine j_getf (pc' := 96) fg_RX9_40 (hp_e rfl) rfl rfl dX9_promised_93 ?_
      refine j_iload_n (pc' := 97) rfl rfl dX9_promised_96 ?_
      obtain ⟨g4, hk⟩ := of_ite hk
      refine j_iald (pc' := 98) (hp_e rfl) (inR_in g4) rfl dX9_promised_97 ?_
      refine j_i2l (pc' := 99) rfl dX9_promised_98 ?_
      obtain rfl := Option.some.inj hk
      exact j_lret rfl ⟨rfl, rfl⟩ dX9_promised_99 hP
    have hk := (if_neg cw1).symm.trans hk
    by_cases cw2 : x2 = 2
    · have hk := (if_pos cw2).symm.trans hk
      refine j_tin (off := 63) (tg := 100) cw2 (by decide) dX9_promised_37 ?_
      refine j_aload_n (pc' := 101) rfl rfl dX9_promised_100 ?_
      refine j_getf (pc' := 104) fg_RX9_43 (hp_e rfl) rfl rfl dX9_promised_101 ?_
      refine j_iload_n (pc' := 105) rfl rfl dX9_promised_104 ?_
      obtain ⟨g5, hk⟩ := of_ite hk
      refine j_iald (pc' := 106) (hp_e rfl) (inR_in g5) rfl dX9_promised_105 ?_
      refine j_i2l (pc' := 107) rfl dX9_promised_106 ?_
      obtain rfl := Option.some.inj hk
      exact j_lret rfl ⟨rfl, rfl⟩ dX9_promised_107 hP
    have hk := (if_neg cw2).symm.trans hk
    by_cases cw3 : x2 = 3
    · have hk := (if_pos cw3).symm.trans hk
      refine j_tin (off := 71) (tg := 108) cw3 (by decide) dX9_promised_37 ?_
      refine j_aload_n (pc' := 109) rfl rfl dX9_promised_108 ?_
      refine j_getf (pc' := 112) fg_RX9_46 (hp_e rfl) rfl rfl dX9_promised_109 ?_
      refine j_iload_n (pc' := 113) rfl rfl dX9_promised_112 ?_
      obtain ⟨g6, hk⟩ := of_ite hk
      refine j_iald (pc' := 114) (hp_e rfl) (inR_in g6) rfl dX9_promised_113 ?_
      refine j_i2l (pc' := 115) rfl dX9_promised_114 ?_
      obtain rfl := Option.some.inj hk
      exact j_lret rfl ⟨rfl, rfl⟩ dX9_promised_115 hP
    have hk := (if_neg cw3).symm.trans hk
    by_cases cw4 : x2 = 4
    · have hk := (if_pos cw4).symm.trans hk
      refine j_tin (off := 79) (tg := 116) cw4 (by decide) dX9_promised_37 ?_
      refine j_aload_n (pc' := 117) rfl rfl dX9_promised_116 ?_
      refine j_getf (pc' := 120) fg_RX9_49 (hp_e rfl) rfl rfl dX9_promised_117 ?_
      refine j_iload_n (pc' := 121) rfl rfl dX9_promised_120 ?_
      obtain ⟨g7, hk⟩ := of_ite hk
      refine j_iald (pc' := 122) (hp_e rfl) (inR_in g7) rfl dX9_promised_121 ?_
      refine j_i2l (pc' := 123) rfl dX9_promised_122 ?_
      obtain rfl := Option.some.inj hk
      exact j_lret rfl ⟨rfl, rfl⟩ dX9_promised_123 hP
    have hk := (if_neg cw4).symm.trans hk
    by_cases cw5 : x2 = 5
    · have hk := (if_pos cw5).symm.trans hk
      refine j_tin (off := 87) (tg := 124) cw5 (by decide) dX9_promised_37 ?_
      refine j_aload_n (pc' := 125) rfl rfl dX9_promised_124 ?_
      refine j_getf (pc' := 128) fg_RX9_52 (hp_e rfl) rfl rfl dX9_promised_125 ?_
      refine j_iload_n (pc' := 129) rfl rfl dX9_promised_128 ?_
      obtain ⟨g8, hk⟩ := of_ite hk
      refine j_iald (pc' := 130) (hp_e rfl) (inR_in g8) rfl dX9_promised_129 ?_
      refine j_i2l (pc' := 131) rfl dX9_promised_130 ?_
      obtain rfl := Option.some.inj hk
      exact j_lret rfl ⟨rfl, rfl⟩ dX9_promised_131 hP
    have hk := (if_neg cw5).symm.trans hk
    by_cases cw6 : x2 = 6
    · have hk := (if_pos cw6).symm.trans hk
      refine j_tin (off := 95) (tg := 132) cw6 (by decide) dX9_promised_37 ?_
      refine j_aload_n (pc' := 133) rfl rfl dX9_promised_132 ?_
      refine j_getf (pc' := 136) fg_RX9_61 (hp_e rfl) rfl rfl dX9_promised_133 ?_
      refine j_iload_n (pc' := 137) rfl rfl dX9_promised_136 ?_
      obtain ⟨g9, hk⟩ := of_ite hk
      refine j_lald (pc' := 138) (hp_e rfl) (inR_in g9) rfl dX9_promised_137 ?_
      obtain rfl := Option.some.inj hk
      exact j_lret rfl ⟨rfl, rfl⟩ dX9_promised_138 hP
    have hk := (if_neg cw6).symm.trans hk
    by_cases cw7 : x2 = 7
    · have hk := (if_pos cw7).symm.trans hk
      refine j_tin (off := 102) (tg := 139) cw7 (by decide) dX9_promised_37 ?_
      refine j_aload_n (pc' := 140) rfl rfl dX9_promised_139 ?_
      refine j_getf (pc' := 143) fg_RX9_55 (hp_e rfl) rfl rfl dX9_promised_140 ?_
      refine j_iload_n (pc' := 144) rfl rfl dX9_promised_143 ?_
      obtain ⟨g10, hk⟩ := of_ite hk
      refine j_iald (pc' := 145) (hp_e rfl) (inR_in g10) rfl dX9_promised_144 ?_
      refine j_i2l (pc' := 146) rfl dX9_promised_145 ?_
      obtain rfl := Option.some.inj hk
      exact j_lret rfl ⟨rfl, rfl⟩ dX9_promised_146 hP
    have hk := (if_neg cw7).symm.trans hk
    refine j_tout (tg := 147) (by have h0 : _ ≠ (0 : Int) := i32ne cw0; have h1 : _ ≠ (1 : Int) := i32ne cw1; have h2 : _ ≠ (2 : Int) := i32ne cw2; have h3 : _ ≠ (3 : Int) := i32ne cw3; have h4 : _ ≠ (4 : Int) := i32ne cw4; have h5 : _ ≠ (5 : Int) := i32ne cw5; have h6 : _ ≠ (6 : Int) := i32ne cw6; have h7 : _ ≠ (7 : Int) := i32ne cw7; omega) rfl dX9_promised_37 ?_
    refine j_aload_n (pc' := 148) rfl rfl dX9_promised_147 ?_
    refine j_getf (pc' := 151) fg_RX9_58 (hp_e rfl) rfl rfl dX9_promised_148 ?_
    refine j_iload_n (pc' := 152) rfl rfl dX9_promised_151 ?_
    obtain ⟨g11, hk⟩ := of_ite hk
    refine j_iald (pc' := 153) (hp_e rfl) (inR_in g11) rfl dX9_promised_152 ?_
    refine j_i2l (pc' := 154) rfl dX9_promised_153 ?_
    obtain rfl := Option.some.inj hk
    exact j_lret rfl ⟨rfl, rfl⟩ dX9_promised_154 hP
  · have hk := (if_neg c12).symm.trans hk
    refine j_lconst (pc' := 35) (v := 0) rfl rfl dX9_promised_34 ?_
    obtain rfl := Option.some.inj hk
    exact j_lret rfl ⟨rfl, rfl⟩ dX9_promised_35 hP
theorem qM_promised_j19 {σ : Mem} {x1 : Int32} {x2 : Int32} {res : Int64 × Mem} (hk : kM_promised_j19 σ x1 x2 = some res) (hP : Po (some (vL res.1)) (hp res.2)) : J l D dA H0 YM_promised h0 Po 0 0 (hp σ) 19 [some (vR (some (30, 0))), some (vI x1), some (vI x2)] [vR (some (30, 0))] := by
  unfold kM_promised_j19 at hk
  refine j_iconst (pc' := 20) (v := 1) rfl rfl dX9_promised_19 ?_
  refine j_goto (tg := 24) rfl dX9_promised_20 ?_
  exact qM_promised_j24 hk hP
theorem qM_promised {σ : Mem} {x1 : Int32} {x2 : Int32} {res : Int64 × Mem} (hk : kM_promised σ x1 x2 = some res) (hP : Po (some (vL res.1)) (hp res.2)) : J l D dA H0 YM_promised h0 Po 0 0 (hp σ) 0 [some (vR (some (30, 0))), some (vI x1), some (vI x2)] [] := by
  unfold kM_promised at hk
  refine j_aload_n (pc' := 1) rfl rfl dX9_promised_0 ?_
  refine j_aload_n (pc' := 2) rfl rfl dX9_promised_1 ?_
  refine j_iload_n (pc' := 3) rfl rfl dX9_promised_2 ?_
  obtain ⟨⟨r1, σ2⟩, hx, hk⟩ := of_bind hk
  refine j_cv1 (pc' := 6) (LM_is hx) cv_RX9_201 ⟨le_b rfl, le_b rfl⟩ (hp_e rfl) rfl rfl (le_b rfl) ⟨rfl, rfl⟩ ⟨le_b rfl, le_b rfl⟩ rfl rfl dX9_promised_3 ?_
  refine j_if_eq (pc' := 9) (tg := 19) rfl rfl dX9_promised_6 (fun c15 => ?_) (fun c15 => ?_)
  · have hk := (if_pos c15).symm.trans hk
    exact qM_promised_j19 hk hP
  · have hk := (if_neg c15).symm.trans hk
    refine j_iload_n (pc' := 10) rfl rfl dX9_promised_9 ?_
    refine j_if_lt (pc' := 13) (tg := 19) rfl rfl dX9_promised_10 (fun c14 => ?_) (fun c14 => ?_)
    · have hk := (if_pos c14).symm.trans hk
      exact qM_promised_j19 hk hP
    · have hk := (if_neg c14).symm.trans hk
      refine j_iload_n (pc' := 14) rfl rfl dX9_promised_13 ?_
      refine j_bipush (pc' := 16) (v := 8) rfl rfl dX9_promised_14 ?_
      refine j_ic_le (pc' := 19) (tg := 23) rfl rfl dX9_promised_16 (fun c13 => ?_) (fun c13 => ?_)
      · have hk := (if_pos c13).symm.trans hk
        refine j_iconst (pc' := 24) (v := 0) rfl rfl dX9_promised_23 ?_
        exact qM_promised_j24 hk hP
      · have hk := (if_neg c13).symm.trans hk
        exact qM_promised_j19 hk hP
theorem LM_promised {σ σ' : Mem} {x1 : Int32} {x2 : Int32} {r : Int64} (hk : kM_promised σ x1 x2 = some (r, σ')) : M l D dA H0 yX9_promised YM_promised [vR (some (30, 0)), vI x1, vI x2] (hp σ) (fun x h' => x = some (vL r) ∧ h' = hp σ') :=
  m_of (j := 0) (by decide) rfl (fun hh => by cases hh) ⟨fun _ _ => trivial, rfl⟩ (le_b rfl) (qM_promised hk ⟨rfl, rfl⟩)
theorem qM_spot {σ : Mem} {x1 : Int32} {x2 : Int32} {res : Int32 × Mem} (hk : kM_spot σ x1 x2 = some res) (hP : Po (some (vI res.1)) (hp res.2)) : J l D dA H0 YM_spot h0 Po 0 0 (hp σ) 0 [some (vR (some (30, 0))), some (vI x1), some (vI x2)] [] := by
  unfold kM_spot at hk
  refine j_aload_n (pc' := 1) rfl rfl dX9_spot_0 ?_
  refine j_iconst (pc' := 2) (v := 0) rfl rfl dX9_spot_1 ?_
  refine j_pi (pc' := 5) (ty := .int) fg_RX9_1 ttX9 rfl rfl ⟨rfl, rfl⟩ rfl (lt_b rfl) rfl rfl dX9_spot_2 ?_
  refine j_aload_n (pc' := 6) rfl rfl dX9_spot_5 ?_
  refine j_iload_n (pc' := 7) rfl rfl dX9_spot_6 ?_
  obtain ⟨⟨r1, σ2⟩, hx, hk⟩ := of_bind hk
  refine j_cv1 (pc' := 10) (LM_is hx) cv_RX9_201 ⟨le_b rfl, le_b rfl⟩ (hp_e rfl) rfl rfl (le_b rfl) ⟨rfl, rfl⟩ ⟨le_b rfl, le_b rfl⟩ rfl rfl dX9_spot_7 ?_
  refine j_if_eq (pc' := 13) (tg := 20) rfl rfl dX9_spot_10 (fun c9 => ?_) (fun c9 => ?_)
  · have hk := (if_pos c9).symm.trans hk
    refine j_iconst (pc' := 21) (v := (-1)) rfl rfl dX9_spot_20 ?_
    obtain rfl := Option.some.inj hk
    exact j_iret rfl ⟨rfl, rfl⟩ dX9_spot_21 hP
  · have hk := (if_neg c9).symm.trans hk
    refine j_iload_n (pc' := 14) rfl rfl dX9_spot_13 ?_
    obtain ⟨⟨r3, σ4⟩, hx, hk⟩ := of_bind hk
    refine j_cs1 (pc' := 17) (LM_isNight hx) cs_RX9_114 ⟨le_b rfl, le_b rfl⟩ rfl (le_b rfl) ⟨rfl, rfl⟩ ⟨le_b rfl, le_b rfl⟩ rfl rfl dX9_spot_14 ?_
    refine j_if_ne (pc' := 20) (tg := 22) rfl rfl dX9_spot_17 (fun c8 => ?_) (fun c8 => ?_)
    · have hk := (if_neg c8).symm.trans hk
      refine j_aload_n (pc' := 23) rfl rfl dX9_spot_22 ?_
      obtain ⟨⟨_, σ6⟩, hx, hk⟩ := of_bind hk
      refine j_cv0 (pc' := 26) (LM_plans hx) cv_RX9_210 ⟨le_b rfl, le_b rfl⟩ (hp_e rfl) rfl rfl (le_b rfl) ⟨rfl, rfl⟩ ⟨le_b rfl, le_b rfl⟩ rfl rfl dX9_spot_23 ?_
      refine j_aload_n (pc' := 27) rfl rfl dX9_spot_26 ?_
      refine j_getf (pc' := 30) fg_RX9_64 (hp_e rfl) rfl rfl dX9_spot_27 ?_
      refine j_bipush (pc' := 32) (v := 60) rfl rfl dX9_spot_30 ?_
      refine j_iload_n (pc' := 33) rfl rfl dX9_spot_32 ?_
      refine j_imul (pc' := 34) rfl dX9_spot_33 ?_
      refine j_iload_n (pc' := 35) rfl rfl dX9_spot_34 ?_
      refine j_iadd (pc' := 36) rfl dX9_spot_35 ?_
      obtain ⟨g7, hk⟩ := of_ite hk
      refine j_iald (pc' := 37) (hp_e rfl) (inR_in g7) rfl dX9_spot_36 ?_
      obtain rfl := Option.some.inj hk
      exact j_iret rfl ⟨rfl, rfl⟩ dX9_spot_37 hP
    · have hk := (if_pos c8).symm.trans hk
      refine j_iconst (pc' := 21) (v := (-1)) rfl rfl dX9_spot_20 ?_
      obtain rfl := Option.some.inj hk
      exact j_iret rfl ⟨rfl, rfl⟩ dX9_spot_21 hP
theorem LM_spot {σ σ' : Mem} {x1 : Int32} {x2 : Int32} {r : Int32} (hk : kM_spot σ x1 x2 = some (r, σ')) : M l D dA H0 yX9_spot YM_spot [vR (some (30, 0)), vI x1, vI x2] (hp σ) (fun x h' => x = some (vI r) ∧ h' = hp σ') :=
  m_of (j := 0) (by decide) rfl (fun hh => by cases hh) ⟨fun _ _ => trivial, rfl⟩ (le_b rfl) (qM_spot hk ⟨rfl, rfl⟩)
theorem qM_moves_s26 {σ : Mem} {x2 : Int32} {x1 : Int32} {x3 : Int32} {out : (Int32 × Int32 × Mem) ⊕ (Int32 × Mem)} (hk : kM_moves_s26 x2 (x1, x3, σ) = some out) (hc : ∀ (z1 : Int32) (z3 : Int32) (ς : Mem), out = .inl (z1, z3, ς) → ∀ (_ : Unit), J l D dA H0 YM_moves h0 Po 0 0 (hp ς) 26 [some (vR (some (30, 0))), some (vI z1), some (vI x2), some (vI z3)] []) (hx0 : ∀ (z1 : Int32) (ς : Mem), out = .inr (z1, ς) → ∀ (o3 : Option AV), J l D dA H0 YM_moves h0 Po 0 0 (hp ς) 50 [some (vR (some (30, 0))), some (vI z1), some (vI x2), o3] []) : J l D dA H0 YM_moves h0 Po 0 0 (hp σ) 26 [some (vR (some (30, 0))), some (vI x1), some (vI x2), some (vI x3)] [] := by
  unfold kM_moves_s26 at hk
  refine j_iload_n (pc' := 27) rfl rfl dX9_moves_26 ?_
  refine j_bipush (pc' := 29) (v := 60) rfl rfl dX9_moves_27 ?_
  refine j_ic_ge (pc' := 32) (tg := 50) rfl rfl dX9_moves_29 (fun c6 => ?_) (fun c6 => ?_)
  · have hk := (if_pos c6).symm.trans hk
    obtain rfl := Option.some.inj hk
    exact hx0 _ _ rfl _
  · have hk := (if_neg c6).symm.trans hk
    refine j_aload_n (pc' := 33) rfl rfl dX9_moves_32 ?_
    refine j_iload_n (pc' := 34) rfl rfl dX9_moves_33 ?_
    refine j_iload_n (pc' := 35) rfl rfl dX9_moves_34 ?_
    obtain ⟨⟨r3, σ4⟩, hx, hk⟩ := of_bind hk
    refine j_cv1 (pc' := 38) (LM_hasMoved hx) cv_RX9_207 ⟨le_b rfl, le_b rfl⟩ (hp_e rfl) rfl rfl (le_b rfl) ⟨rfl, rfl⟩ ⟨le_b rfl, le_b rfl⟩ rfl rfl dX9_moves_35 ?_
    refine j_if_eq (pc' := 41) (tg := 44) rfl rfl dX9_moves_38 (fun c5 => ?_) (fun c5 => ?_)
    · have hk := (if_pos c5).symm.trans hk
      refine j_iinc (pc' := 47) (v := x3 + 1) rfl rfl (lt_b rfl) rfl rfl dX9_moves_44 ?_
      refine j_goto (tg := 26) rfl dX9_moves_47 ?_
      obtain rfl := Option.some.inj hk
      exact hc _ _ _ rfl ()
    · have hk := (if_neg c5).symm.trans hk
      refine j_iinc (pc' := 44) (v := x1 + 1) rfl rfl (lt_b rfl) rfl rfl dX9_moves_41 ?_
      refine j_iinc (pc' := 47) (v := x3 + 1) rfl rfl (lt_b rfl) rfl rfl dX9_moves_44 ?_
      refine j_goto (tg := 26) rfl dX9_moves_47 ?_
      obtain rfl := Option.some.inj hk
      exact hc _ _ _ rfl ()
theorem lM_moves_s26 {x2 : Int32} : ∀ (n : Nat) (x1 : Int32) (x3 : Int32) (σ : Mem) (e : (Int32 × Mem)), loopF n (kM_moves_s26 x2) (x1, x3, σ) = some e → (∀ (z1 : Int32) (ς : Mem), e = (z1, ς) → ∀ (o3 : Option AV), J l D dA H0 YM_moves h0 Po 0 0 (hp ς) 50 [some (vR (some (30, 0))), some (vI z1), some (vI x2), o3] []) → ∀ (_ : Unit), J l D dA H0 YM_moves h0 Po 0 0 (hp σ) 26 [some (vR (some (30, 0))), some (vI x1), some (vI x2), some (vI x3)] []
  | 0, x1, x3, σ, e, he => by cases he
  | n + 1, x1, x3, σ, e, he => by
    intro hx0 u
    rcases loopF_succ he with ⟨s', h1, h2⟩ | h1
    · refine qM_moves_s26 h1 ?_ ?_
      · intro z1 z3 ς ee
        cases ee
        exact lM_moves_s26 n z1 z3 ς e h2 hx0
      · intro z1 ς ee
        cases ee
    · refine qM_moves_s26 h1 ?_ ?_
      · intro z1 z3 ς ee
        cases ee
      · intro z1 ς ee
        exact hx0 z1 ς (Sum.inr.inj ee)
theorem qM_moves_x50 {σ : Mem} {x1 : Int32} {x2 : Int32} {o3 : Option AV} {out : Int32 × Int32 × Mem ⊕ (Int32 × Mem)} (hk : kM_moves_x50 σ x1 x2 = some out) (hc : ∀ (z1 : Int32) (z2 : Int32) (ς : Mem), out = .inl (z1, z2, ς) → ∀ (o3 : Option AV), J l D dA H0 YM_moves h0 Po 0 0 (hp ς) 13 [some (vR (some (30, 0))), some (vI z1), some (vI z2), o3] []) (hx0 : ∀ (z1 : Int32) (ς : Mem), out = .inr (z1, ς) → ∀ (o0 o2 o3 : Option AV), J l D dA H0 YM_moves h0 Po 0 0 (hp ς) 56 [o0, some (vI z1), o2, o3] []) : J l D dA H0 YM_moves h0 Po 0 0 (hp σ) 50 [some (vR (some (30, 0))), some (vI x1), some (vI x2), o3] [] := by
  unfold kM_moves_x50 at hk
  refine j_iinc (pc' := 53) (v := x2 + 1) rfl rfl (lt_b rfl) rfl rfl dX9_moves_50 ?_
  refine j_goto (tg := 13) rfl dX9_moves_53 ?_
  obtain rfl := Option.some.inj hk
  exact hc _ _ _ rfl _
theorem qM_moves_s13 {σ : Mem} {x1 : Int32} {x2 : Int32} {o3 : Option AV} {out : (Int32 × Int32 × Mem) ⊕ (Int32 × Mem)} (hk : kM_moves_s13 (x1, x2, σ) = some out) (hc : ∀ (z1 : Int32) (z2 : Int32) (ς : Mem), out = .inl (z1, z2, ς) → ∀ (o3 : Option AV), J l D dA H0 YM_moves h0 Po 0 0 (hp ς) 13 [some (vR (some (30, 0))), some (vI z1), some (vI z2), o3] []) (hx0 : ∀ (z1 : Int32) (ς : Mem), out = .inr (z1, ς) → ∀ (o0 o2 o3 : Option AV), J l D dA H0 YM_moves h0 Po 0 0 (hp ς) 56 [o0, some (vI z1), o2, o3] []) : J l D dA H0 YM_moves h0 Po 0 0 (hp σ) 13 [some (vR (some (30, 0))), some (vI x1), some (vI x2), o3] [] := by
  unfold kM_moves_s13 at hk
  refine j_iload_n (pc' := 14) rfl rfl dX9_moves_13 ?_
  refine j_aload_n (pc' := 15) rfl rfl dX9_moves_14 ?_
  refine j_getf (pc' := 18) fg_RX9_117 (hp_e rfl) rfl rfl dX9_moves_15 ?_
  refine j_ic_ge (pc' := 21) (tg := 56) rfl rfl dX9_moves_18 (fun c7 => ?_) (fun c7 => ?_)
  · have hk := (if_pos c7).symm.trans hk
    obtain rfl := Option.some.inj hk
    exact hx0 _ _ rfl _ _ _
  · have hk := (if_neg c7).symm.trans hk
    refine j_aload_n (pc' := 22) rfl rfl dX9_moves_21 ?_
    refine j_getf (pc' := 25) fg_RX9_158 (hp_e rfl) rfl rfl dX9_moves_22 ?_
    refine j_istore_n (pc' := 26) (lt_b rfl) rfl rfl dX9_moves_25 ?_
    obtain ⟨e, he, hk⟩ := of_bind hk
    refine lM_moves_s26 FU _ _ _ e he ?_ ()
    · intro z1 ς ee _
      subst ee
      exact qM_moves_x50 hk hc hx0
theorem lM_moves_s13 : ∀ (n : Nat) (x1 : Int32) (x2 : Int32) (σ : Mem) (e : (Int32 × Mem)), loopF n (kM_moves_s13) (x1, x2, σ) = some e → (∀ (z1 : Int32) (ς : Mem), e = (z1, ς) → ∀ (o0 o2 o3 : Option AV), J l D dA H0 YM_moves h0 Po 0 0 (hp ς) 56 [o0, some (vI z1), o2, o3] []) → ∀ (o3 : Option AV), J l D dA H0 YM_moves h0 Po 0 0 (hp σ) 13 [some (vR (some (30, 0))), some (vI x1), some (vI x2), o3] []
  | 0, x1, x2, σ, e, he => by cases he
  | n + 1, x1, x2, σ, e, he => by
    intro hx0 o3
    rcases loopF_succ he with ⟨s', h1, h2⟩ | h1
    · refine qM_moves_s13 h1 ?_ ?_
      · intro z1 z2 ς ee
        cases ee
        exact lM_moves_s13 n z1 z2 ς e h2 hx0
      · intro z1 ς ee
        cases ee
    · refine qM_moves_s13 h1 ?_ ?_
      · intro z1 z2 ς ee
        cases ee
      · intro z1 ς ee
        exact hx0 z1 ς (Sum.inr.inj ee)
theorem qM_moves_x56 {σ : Mem} {x1 : Int32} {o0 : Option AV} {o2 : Option AV} {o3 : Option AV} {res : Int32 × Mem} (hk : kM_moves_x56 σ x1 = some res) (hP : Po (some (vI res.1)) (hp res.2)) : J l D dA H0 YM_moves h0 Po 0 0 (hp σ) 56 [o0, some (vI x1), o2, o3] [] := by
  unfold kM_moves_x56 at hk
  refine j_iload_n (pc' := 57) rfl rfl dX9_moves_56 ?_
  obtain rfl := Option.some.inj hk
  exact j_iret rfl ⟨rfl, rfl⟩ dX9_moves_57 hP
theorem qM_moves {σ : Mem} {o1 : Option AV} {o2 : Option AV} {o3 : Option AV} {res : Int32 × Mem} (hk : kM_moves σ = some res) (hP : Po (some (vI res.1)) (hp res.2)) : J l D dA H0 YM_moves h0 Po 0 0 (hp σ) 0 [some (vR (some (30, 0))), o1, o2, o3] [] := by
  unfold kM_moves at hk
  refine j_aload_n (pc' := 1) rfl rfl dX9_moves_0 ?_
  refine j_iconst (pc' := 2) (v := 0) rfl rfl dX9_moves_1 ?_
  refine j_pi (pc' := 5) (ty := .int) fg_RX9_1 ttX9 rfl rfl ⟨rfl, rfl⟩ rfl (lt_b rfl) rfl rfl dX9_moves_2 ?_
  refine j_aload_n (pc' := 6) rfl rfl dX9_moves_5 ?_
  obtain ⟨⟨_, σ2⟩, hx, hk⟩ := of_bind hk
  refine j_cv0 (pc' := 9) (LM_plans hx) cv_RX9_210 ⟨le_b rfl, le_b rfl⟩ (hp_e rfl) rfl rfl (le_b rfl) ⟨rfl, rfl⟩ ⟨le_b rfl, le_b rfl⟩ rfl rfl dX9_moves_6 ?_
  refine j_iconst (pc' := 10) (v := 0) rfl rfl dX9_moves_9 ?_
  refine j_istore_n (pc' := 11) (lt_b rfl) rfl rfl dX9_moves_10 ?_
  refine j_iconst (pc' := 12) (v := 0) rfl rfl dX9_moves_11 ?_
  refine j_istore_n (pc' := 13) (lt_b rfl) rfl rfl dX9_moves_12 ?_
  obtain ⟨e, he, hk⟩ := of_bind hk
  refine lM_moves_s13 FU _ _ _ e he ?_ _
  · intro z1 ς ee _ _ _
    subst ee
    exact qM_moves_x56 hk hP
theorem LM_moves {σ σ' : Mem} {r : Int32} (hk : kM_moves σ = some (r, σ')) : M l D dA H0 yX9_moves YM_moves [vR (some (30, 0))] (hp σ) (fun x h' => x = some (vI r) ∧ h' = hp σ') :=
  m_of (j := 3) (by decide) rfl (fun hh => by cases hh) ⟨fun _ _ => trivial, rfl⟩ (le_b rfl) (qM_moves hk ⟨rfl, rfl⟩)
theorem qM_floors_s24 {σ : Mem} {x1 : Int32} {x2 : Int32} {x3 : Int32} {x4 : Int32} {x5 : Int32} {o6 : Option AV} {out : (Int32 × Int32 × Mem) ⊕ (Int32 × Mem)} (hk : kM_floors_s24 x1 x2 x3 (x4, x5, σ) = some out) (hc : ∀ (z4 : Int32) (z5 : Int32) (ς : Mem), out = .inl (z4, z5, ς) → ∀ (o6 : Option AV), J l D dA H0 YM_floors h0 Po 0 0 (hp ς) 24 [some (vR (some (30, 0))), some (vI x1), some (vI x2), some (vI x3), some (vI z4), some (vI z5), o6] []) (hx0 : ∀ (z4 : Int32) (ς : Mem), out = .inr (z4, ς) → ∀ (o0 o1 o2 o3 o5 o6 : Option AV), J l D dA H0 YM_floors h0 Po 0 0 (hp ς) 94 [o0, o1, o2, o3, some (vI z4), o5, o6] []) : J l D dA H0 YM_floors h0 Po 0 0 (hp σ) 24 [some (vR (some (30, 0))), some (vI x1), some (vI x2), some (vI x3), some (vI x4), some (vI x5), o6] [] := by
  unfold kM_floors_s24 at hk
  refine j_iload (pc' := 26) rfl rfl dX9_floors_24 ?_
  refine j_aload_n (pc' := 27) rfl rfl dX9_floors_26 ?_
  refine j_getf (pc' := 30) fg_RX9_117 (hp_e rfl) rfl rfl dX9_floors_27 ?_
  refine j_ic_ge (pc' := 33) (tg := 94) rfl rfl dX9_floors_30 (fun c11 => ?_) (fun c11 => ?_)
  · have hk := (if_pos c11).symm.trans hk
    obtain rfl := Option.some.inj hk
    exact hx0 _ _ rfl _ _ _ _ _ _
  · have hk := (if_neg c11).symm.trans hk
    refine j_iload (pc' := 35) rfl rfl dX9_floors_33 ?_
    refine j_iload_n (pc' := 36) rfl rfl dX9_floors_35 ?_
    refine j_ic_lt (pc' := 39) (tg := 88) rfl rfl dX9_floors_36 (fun c10 => ?_) (fun c10 => ?_)
    · have hk := (if_pos c10).symm.trans hk
      refine j_iinc (pc' := 91) (v := x5 + 1) rfl rfl (lt_b rfl) rfl rfl dX9_floors_88 ?_
      refine j_goto (tg := 24) rfl dX9_floors_91 ?_
      obtain rfl := Option.some.inj hk
      exact hc _ _ _ rfl _
    · have hk := (if_neg c10).symm.trans hk
      refine j_iload (pc' := 41) rfl rfl dX9_floors_39 ?_
      refine j_iload_n (pc' := 42) rfl rfl dX9_floors_41 ?_
      refine j_ic_gt (pc' := 45) (tg := 88) rfl rfl dX9_floors_42 (fun c9 => ?_) (fun c9 => ?_)
      · have hk := (if_pos c9).symm.trans hk
        refine j_iinc (pc' := 91) (v := x5 + 1) rfl rfl (lt_b rfl) rfl rfl dX9_floors_88 ?_
        refine j_goto (tg := 24) rfl dX9_floors_91 ?_
        obtain rfl := Option.some.inj hk
        exact hc _ _ _ rfl _
      · have hk := (if_neg c9).symm.trans hk
        refine j_aload_n (pc' := 46) rfl rfl dX9_floors_45 ?_
        refine j_getf (pc' := 49) fg_RX9_64 (hp_e rfl) rfl rfl dX9_floors_46 ?_
        refine j_bipush (pc' := 51) (v := 60) rfl rfl dX9_floors_49 ?_
        refine j_iload (pc' := 53) rfl rfl dX9_floors_51 ?_
        refine j_imul (pc' := 54) rfl dX9_floors_53 ?_
        refine j_iload_n (pc' := 55) rfl rfl dX9_floors_54 ?_
        refine j_iadd (pc' := 56) rfl dX9_floors_55 ?_
        obtain ⟨g5, hk⟩ := of_ite hk
        refine j_iald (pc' := 57) (hp_e rfl) (inR_in g5) rfl dX9_floors_56 ?_
        refine j_iconst (pc' := 58) (v := (-1)) rfl rfl dX9_floors_57 ?_
        refine j_ic_eq (pc' := 61) (tg := 88) rfl rfl dX9_floors_58 (fun c8 => ?_) (fun c8 => ?_)
        · have hk := (if_pos c8).symm.trans hk
          refine j_iinc (pc' := 91) (v := x5 + 1) rfl rfl (lt_b rfl) rfl rfl dX9_floors_88 ?_
          refine j_goto (tg := 24) rfl dX9_floors_91 ?_
          obtain rfl := Option.some.inj hk
          exact hc _ _ _ rfl _
        · have hk := (if_neg c8).symm.trans hk
          refine j_iload (pc' := 63) rfl rfl dX9_floors_61 ?_
          refine j_iconst (pc' := 64) (v := 1) rfl rfl dX9_floors_63 ?_
          refine j_aload_n (pc' := 65) rfl rfl dX9_floors_64 ?_
          refine j_getf (pc' := 68) fg_RX9_17 (hp_e rfl) rfl rfl dX9_floors_65 ?_
          refine j_aload_n (pc' := 69) rfl rfl dX9_floors_68 ?_
          refine j_getf (pc' := 72) fg_RX9_64 (hp_e rfl) rfl rfl dX9_floors_69 ?_
          refine j_bipush (pc' := 74) (v := 60) rfl rfl dX9_floors_72 ?_
          refine j_iload (pc' := 76) rfl rfl dX9_floors_74 ?_
          refine j_imul (pc' := 77) rfl dX9_floors_76 ?_
          refine j_iload_n (pc' := 78) rfl rfl dX9_floors_77 ?_
          refine j_iadd (pc' := 79) rfl dX9_floors_78 ?_
          obtain ⟨g6, hk⟩ := of_ite hk
          refine j_iald (pc' := 80) (hp_e rfl) (inR_in g6) rfl dX9_floors_79 ?_
          refine j_bipush (pc' := 82) (v := 32) rfl rfl dX9_floors_80 ?_
          refine j_idiv (pc' := 83) (by decide) rfl dX9_floors_82 ?_
          obtain ⟨g7, hk⟩ := of_ite hk
          refine j_iald (pc' := 84) (hp_e rfl) (inR_in g7) rfl dX9_floors_83 ?_
          refine j_ishl (pc' := 85) rfl dX9_floors_84 ?_
          refine j_ior (pc' := 86) rfl dX9_floors_85 ?_
          refine j_istore (pc' := 88) (lt_b rfl) rfl rfl dX9_floors_86 ?_
          refine j_iinc (pc' := 91) (v := x5 + 1) rfl rfl (lt_b rfl) rfl rfl dX9_floors_88 ?_
          refine j_goto (tg := 24) rfl dX9_floors_91 ?_
          obtain rfl := Option.some.inj hk
          exact hc _ _ _ rfl _
theorem lM_floors_s24 {x1 : Int32} {x2 : Int32} {x3 : Int32} : ∀ (n : Nat) (x4 : Int32) (x5 : Int32) (σ : Mem) (e : (Int32 × Mem)), loopF n (kM_floors_s24 x1 x2 x3) (x4, x5, σ) = some e → (∀ (z4 : Int32) (ς : Mem), e = (z4, ς) → ∀ (o0 o1 o2 o3 o5 o6 : Option AV), J l D dA H0 YM_floors h0 Po 0 0 (hp ς) 94 [o0, o1, o2, o3, some (vI z4), o5, o6] []) → ∀ (o6 : Option AV), J l D dA H0 YM_floors h0 Po 0 0 (hp σ) 24 [some (vR (some (30, 0))), some (vI x1), some (vI x2), some (vI x3), some (vI x4), some (vI x5), o6] []
  | 0, x4, x5, σ, e, he => by cases he
  | n + 1, x4, x5, σ, e, he => by
    intro hx0 o6
    rcases loopF_succ he with ⟨s', h1, h2⟩ | h1
    · refine qM_floors_s24 h1 ?_ ?_
      · intro z4 z5 ς ee
        cases ee
        exact lM_floors_s24 n z4 z5 ς e h2 hx0
      · intro z4 ς ee
        cases ee
    · refine qM_floors_s24 h1 ?_ ?_
      · intro z4 z5 ς ee
        cases ee
      · intro z4 ς ee
        exact hx0 z4 ς (Sum.inr.inj ee)
theorem qM_floors_s100 {σ : Mem} {x4 : Int32} {x5 : Int32} {x6 : Int32} {o0 : Option AV} {o1 : Option AV} {o2 : Option AV} {o3 : Option AV} {out : (Int32 × Int32 × Mem) ⊕ (Int32 × Mem)} (hk : kM_floors_s100 x4 (x5, x6, σ) = some out) (hc : ∀ (z5 : Int32) (z6 : Int32) (ς : Mem), out = .inl (z5, z6, ς) → ∀ (o0 o1 o2 o3 : Option AV), J l D dA H0 YM_floors h0 Po 0 0 (hp ς) 100 [o0, o1, o2, o3, some (vI x4), some (vI z5), some (vI z6)] []) (hx0 : ∀ (z5 : Int32) (ς : Mem), out = .inr (z5, ς) → ∀ (o0 o1 o2 o3 o4 o6 : Option AV), J l D dA H0 YM_floors h0 Po 0 0 (hp ς) 125 [o0, o1, o2, o3, o4, some (vI z5), o6] []) : J l D dA H0 YM_floors h0 Po 0 0 (hp σ) 100 [o0, o1, o2, o3, some (vI x4), some (vI x5), some (vI x6)] [] := by
  unfold kM_floors_s100 at hk
  refine j_iload (pc' := 102) rfl rfl dX9_floors_100 ?_
  refine j_bipush (pc' := 104) (v := 10) rfl rfl dX9_floors_102 ?_
  refine j_ic_ge (pc' := 107) (tg := 125) rfl rfl dX9_floors_104 (fun c12 => ?_) (fun c12 => ?_)
  · have hk := (if_pos c12).symm.trans hk
    obtain rfl := Option.some.inj hk
    exact hx0 _ _ rfl _ _ _ _ _ _
  · have hk := (if_neg c12).symm.trans hk
    refine j_iload (pc' := 109) rfl rfl dX9_floors_107 ?_
    refine j_iload (pc' := 111) rfl rfl dX9_floors_109 ?_
    refine j_iload (pc' := 113) rfl rfl dX9_floors_111 ?_
    refine j_ishr (pc' := 114) rfl dX9_floors_113 ?_
    refine j_iconst (pc' := 115) (v := 1) rfl rfl dX9_floors_114 ?_
    refine j_iand (pc' := 116) rfl dX9_floors_115 ?_
    refine j_iadd (pc' := 117) rfl dX9_floors_116 ?_
    refine j_istore (pc' := 119) (lt_b rfl) rfl rfl dX9_floors_117 ?_
    refine j_iinc (pc' := 122) (v := x6 + 1) rfl rfl (lt_b rfl) rfl rfl dX9_floors_119 ?_
    refine j_goto (tg := 100) rfl dX9_floors_122 ?_
    obtain rfl := Option.some.inj hk
    exact hc _ _ _ rfl _ _ _ _
theorem lM_floors_s100 {x4 : Int32} : ∀ (n : Nat) (x5 : Int32) (x6 : Int32) (σ : Mem) (e : (Int32 × Mem)), loopF n (kM_floors_s100 x4) (x5, x6, σ) = some e → (∀ (z5 : Int32) (ς : Mem), e = (z5, ς) → ∀ (o0 o1 o2 o3 o4 o6 : Option AV), J l D dA H0 YM_floors h0 Po 0 0 (hp ς) 125 [o0, o1, o2, o3, o4, some (vI z5), o6] []) → ∀ (o0 o1 o2 o3 : Option AV), J l D dA H0 YM_floors h0 Po 0 0 (hp σ) 100 [o0, o1, o2, o3, some (vI x4), some (vI x5), some (vI x6)] []
  | 0, x5, x6, σ, e, he => by cases he
  | n + 1, x5, x6, σ, e, he => by
    intro hx0 o0 o1 o2 o3
    rcases loopF_succ he with ⟨s', h1, h2⟩ | h1
    · refine qM_floors_s100 h1 ?_ ?_
      · intro z5 z6 ς ee
        cases ee
        exact lM_floors_s100 n z5 z6 ς e h2 hx0
      · intro z5 ς ee
        cases ee
    · refine qM_floors_s100 h1 ?_ ?_
      · intro z5 z6 ς ee
        cases ee
      · intro z5 ς ee
        exact hx0 z5 ς (Sum.inr.inj ee)
theorem qM_floors_x125 {σ : Mem} {x5 : Int32} {o0 : Option AV} {o1 : Option AV} {o2 : Option AV} {o3 : Option AV} {o4 : Option AV} {o6 : Option AV} {res : Int32 × Mem} (hk : kM_floors_x125 σ x5 = some res) (hP : Po (some (vI res.1)) (hp res.2)) : J l D dA H0 YM_floors h0 Po 0 0 (hp σ) 125 [o0, o1, o2, o3, o4, some (vI x5), o6] [] := by
  unfold kM_floors_x125 at hk
  refine j_iload (pc' := 127) rfl rfl dX9_floors_125 ?_
  obtain rfl := Option.some.inj hk
  exact j_iret rfl ⟨rfl, rfl⟩ dX9_floors_127 hP
theorem qM_floors_x94 {σ : Mem} {x4 : Int32} {o0 : Option AV} {o1 : Option AV} {o2 : Option AV} {o3 : Option AV} {o5 : Option AV} {o6 : Option AV} {res : Int32 × Mem} (hk : kM_floors_x94 σ x4 = some res) (hP : Po (some (vI res.1)) (hp res.2)) : J l D dA H0 YM_floors h0 Po 0 0 (hp σ) 94 [o0, o1, o2, o3, some (vI x4), o5, o6] [] := by
  unfold kM_floors_x94 at hk
  refine j_iconst (pc' := 95) (v := 0) rfl rfl dX9_floors_94 ?_
  refine j_istore (pc' := 97) (lt_b rfl) rfl rfl dX9_floors_95 ?_
  refine j_iconst (pc' := 98) (v := 0) rfl rfl dX9_floors_97 ?_
  refine j_istore (pc' := 100) (lt_b rfl) rfl rfl dX9_floors_98 ?_
  obtain ⟨e, he, hk⟩ := of_bind hk
  refine lM_floors_s100 FU _ _ _ e he ?_ _ _ _ _
  · intro z5 ς ee _ _ _ _ _ _
    subst ee
    exact qM_floors_x125 hk hP
theorem qM_floors {σ : Mem} {x1 : Int32} {x2 : Int32} {x3 : Int32} {o4 : Option AV} {o5 : Option AV} {o6 : Option AV} {res : Int32 × Mem} (hk : kM_floors σ x1 x2 x3 = some res) (hP : Po (some (vI res.1)) (hp res.2)) : J l D dA H0 YM_floors h0 Po 0 0 (hp σ) 0 [some (vR (some (30, 0))), some (vI x1), some (vI x2), some (vI x3), o4, o5, o6] [] := by
  unfold kM_floors at hk
  refine j_aload_n (pc' := 1) rfl rfl dX9_floors_0 ?_
  refine j_iconst (pc' := 2) (v := 0) rfl rfl dX9_floors_1 ?_
  refine j_pi (pc' := 5) (ty := .int) fg_RX9_1 ttX9 rfl rfl ⟨rfl, rfl⟩ rfl (lt_b rfl) rfl rfl dX9_floors_2 ?_
  refine j_iload_n (pc' := 6) rfl rfl dX9_floors_5 ?_
  obtain ⟨⟨r1, σ2⟩, hx, hk⟩ := of_bind hk
  refine j_cs1 (pc' := 9) (LM_isNight hx) cs_RX9_114 ⟨le_b rfl, le_b rfl⟩ rfl (le_b rfl) ⟨rfl, rfl⟩ ⟨le_b rfl, le_b rfl⟩ rfl rfl dX9_floors_6 ?_
  refine j_if_ne (pc' := 12) (tg := 14) rfl rfl dX9_floors_9 (fun c13 => ?_) (fun c13 => ?_)
  · have hk := (if_neg c13).symm.trans hk
    refine j_aload_n (pc' := 15) rfl rfl dX9_floors_14 ?_
    obtain ⟨⟨_, σ4⟩, hx, hk⟩ := of_bind hk
    refine j_cv0 (pc' := 18) (LM_plans hx) cv_RX9_210 ⟨le_b rfl, le_b rfl⟩ (hp_e rfl) rfl rfl (le_b rfl) ⟨rfl, rfl⟩ ⟨le_b rfl, le_b rfl⟩ rfl rfl dX9_floors_15 ?_
    refine j_iconst (pc' := 19) (v := 0) rfl rfl dX9_floors_18 ?_
    refine j_istore (pc' := 21) (lt_b rfl) rfl rfl dX9_floors_19 ?_
    refine j_iconst (pc' := 22) (v := 0) rfl rfl dX9_floors_21 ?_
    refine j_istore (pc' := 24) (lt_b rfl) rfl rfl dX9_floors_22 ?_
    obtain ⟨e, he, hk⟩ := of_bind hk
    refine lM_floors_s24 FU _ _ _ e he ?_ _
    · intro z4 ς ee _ _ _ _ _ _
      subst ee
      exact qM_floors_x94 hk hP
  · have hk := (if_pos c13).symm.trans hk
    refine j_iconst (pc' := 13) (v := 0) rfl rfl dX9_floors_12 ?_
    obtain rfl := Option.some.inj hk
    exact j_iret rfl ⟨rfl, rfl⟩ dX9_floors_13 hP
theorem LM_floors {σ σ' : Mem} {x1 : Int32} {x2 : Int32} {x3 : Int32} {r : Int32} (hk : kM_floors σ x1 x2 x3 = some (r, σ')) : M l D dA H0 yX9_floors YM_floors [vR (some (30, 0)), vI x1, vI x2, vI x3] (hp σ) (fun x h' => x = some (vI r) ∧ h' = hp σ') :=
  m_of (j := 3) (by decide) rfl (fun hh => by cases hh) ⟨fun _ _ => trivial, rfl⟩ (le_b rfl) (qM_floors hk ⟨rfl, rfl⟩)
theorem qM_lacks {σ : Mem} {x1 : Int32} {res : Int32 × Mem} (hk : kM_lacks σ x1 = some res) (hP : Po (some (vI res.1)) (hp res.2)) : J l D dA H0 YM_lacks h0 Po 0 0 (hp σ) 0 [some (vR (some (30, 0))), some (vI x1)] [] := by
  unfold kM_lacks at hk
  refine j_aload_n (pc' := 1) rfl rfl dX9_lacks_0 ?_
  refine j_iconst (pc' := 2) (v := 0) rfl rfl dX9_lacks_1 ?_
  refine j_pi (pc' := 5) (ty := .int) fg_RX9_1 ttX9 rfl rfl ⟨rfl, rfl⟩ rfl (lt_b rfl) rfl rfl dX9_lacks_2 ?_
  refine j_iload_n (pc' := 6) rfl rfl dX9_lacks_5 ?_
  obtain ⟨⟨r1, σ2⟩, hx, hk⟩ := of_bind hk
  refine j_cs1 (pc' := 9) (LM_isNight hx) cs_RX9_114 ⟨le_b rfl, le_b rfl⟩ rfl (le_b rfl) ⟨rfl, rfl⟩ ⟨le_b rfl, le_b rfl⟩ rfl rfl dX9_lacks_6 ?_
  refine j_if_eq (pc' := 12) (tg := 20) rfl rfl dX9_lacks_9 (fun c6 => ?_) (fun c6 => ?_)
  · have hk := (if_pos c6).symm.trans hk
    refine j_iconst (pc' := 21) (v := (-1)) rfl rfl dX9_lacks_20 ?_
    refine j_goto (tg := 31) rfl dX9_lacks_21 ?_
    obtain rfl := Option.some.inj hk
    exact j_iret rfl ⟨rfl, rfl⟩ dX9_lacks_31 hP
  · have hk := (if_neg c6).symm.trans hk
    refine j_iload_n (pc' := 13) rfl rfl dX9_lacks_12 ?_
    refine j_aload_n (pc' := 14) rfl rfl dX9_lacks_13 ?_
    refine j_getf (pc' := 17) fg_RX9_158 (hp_e rfl) rfl rfl dX9_lacks_14 ?_
    refine j_ic_ge (pc' := 20) (tg := 24) rfl rfl dX9_lacks_17 (fun c5 => ?_) (fun c5 => ?_)
    · have hk := (if_pos c5).symm.trans hk
      refine j_aload_n (pc' := 25) rfl rfl dX9_lacks_24 ?_
      refine j_iload_n (pc' := 26) rfl rfl dX9_lacks_25 ?_
      refine j_iconst (pc' := 27) (v := (-1)) rfl rfl dX9_lacks_26 ?_
      refine j_iconst (pc' := 28) (v := (-1)) rfl rfl dX9_lacks_27 ?_
      obtain ⟨⟨r3, σ4⟩, hx, hk⟩ := of_bind hk
      refine j_cv1 (pc' := 31) (LM_lack hx) cv_RX9_186 ⟨le_b rfl, le_b rfl⟩ (hp_e rfl) rfl rfl (le_b rfl) ⟨rfl, rfl⟩ ⟨le_b rfl, le_b rfl⟩ rfl rfl dX9_lacks_28 ?_
      obtain rfl := Option.some.inj hk
      exact j_iret rfl ⟨rfl, rfl⟩ dX9_lacks_31 hP
    · have hk := (if_neg c5).symm.trans hk
      refine j_iconst (pc' := 21) (v := (-1)) rfl rfl dX9_lacks_20 ?_
      refine j_goto (tg := 31) rfl dX9_lacks_21 ?_
      obtain rfl := Option.some.inj hk
      exact j_iret rfl ⟨rfl, rfl⟩ dX9_lacks_31 hP
theorem LM_lacks {σ σ' : Mem} {x1 : Int32} {r : Int32} (hk : kM_lacks σ x1 = some (r, σ')) : M l D dA H0 yX9_lacks YM_lacks [vR (some (30, 0)), vI x1] (hp σ) (fun x h' => x = some (vI r) ∧ h' = hp σ') :=
  m_of (j := 0) (by decide) rfl (fun hh => by cases hh) ⟨fun _ _ => trivial, rfl⟩ (le_b rfl) (qM_lacks hk ⟨rfl, rfl⟩)
theorem qM_hasSomebody_j55 {σ : Mem} {x1 : Int32} {x2 : Int32} {x3 : Int32} {x4 : Int32} {x5 : Int32} {out : Int32 × Mem ⊕ ((Mem) ⊕ (Mem))} (hk : kM_hasSomebody_j55 σ x1 x2 x3 x4 x5 = some out) (hc : ∀ (z4 : Int32) (ς : Mem), out = .inl (z4, ς) → ∀ (o5 : Option AV), J l D dA H0 YM_hasSomebody h0 Po 0 0 (hp ς) 3 [some (vR (some (30, 0))), some (vI x1), some (vI x2), some (vI x3), some (vI z4), o5] []) (hx0 : ∀ (ς : Mem), out = .inr (.inl ς) → ∀ (o0 o1 o2 o3 o4 o5 : Option AV), J l D dA H0 YM_hasSomebody h0 Po 0 0 (hp ς) 77 [o0, o1, o2, o3, o4, o5] []) (hx1 : ∀ (ς : Mem), out = .inr (.inr ς) → ∀ (o0 o1 o2 o3 o4 o5 : Option AV), J l D dA H0 YM_hasSomebody h0 Po 0 0 (hp ς) 85 [o0, o1, o2, o3, o4, o5] []) : J l D dA H0 YM_hasSomebody h0 Po 0 0 (hp σ) 55 [some (vR (some (30, 0))), some (vI x1), some (vI x2), some (vI x3), some (vI x4), some (vI x5)] [] := by
  unfold kM_hasSomebody_j55 at hk
  refine j_iload (pc' := 57) rfl rfl dX9_hasSomebody_55 ?_
  refine j_iconst (pc' := 58) (v := 4) rfl rfl dX9_hasSomebody_57 ?_
  refine j_irem (pc' := 59) (by decide) rfl dX9_hasSomebody_58 ?_
  refine j_iconst (pc' := 60) (v := 1) rfl rfl dX9_hasSomebody_59 ?_
  refine j_ic_ne (pc' := 63) (tg := 79) rfl rfl dX9_hasSomebody_60 (fun c4 => ?_) (fun c4 => ?_)
  · have hk := (if_neg c4).symm.trans hk
    refine j_iinc (pc' := 82) (v := x4 + 1) rfl rfl (lt_b rfl) rfl rfl dX9_hasSomebody_79 ?_
    refine j_goto (tg := 3) rfl dX9_hasSomebody_82 ?_
    obtain rfl := Option.some.inj hk
    exact hc _ _ rfl _
  · have hk := (if_pos c4).symm.trans hk
    refine j_aload_n (pc' := 64) rfl rfl dX9_hasSomebody_63 ?_
    refine j_getf (pc' := 67) fg_RX9_23 (hp_e rfl) rfl rfl dX9_hasSomebody_64 ?_
    refine j_iload (pc' := 69) rfl rfl dX9_hasSomebody_67 ?_
    refine j_bipush (pc' := 71) (v := 32) rfl rfl dX9_hasSomebody_69 ?_
    refine j_idiv (pc' := 72) (by decide) rfl dX9_hasSomebody_71 ?_
    obtain ⟨g2, hk⟩ := of_ite hk
    refine j_iald (pc' := 73) (hp_e rfl) (inR_in g2) rfl dX9_hasSomebody_72 ?_
    refine j_iload_n (pc' := 74) rfl rfl dX9_hasSomebody_73 ?_
    refine j_ic_ne (pc' := 77) (tg := 79) rfl rfl dX9_hasSomebody_74 (fun c3 => ?_) (fun c3 => ?_)
    · have hk := (if_neg c3).symm.trans hk
      refine j_iinc (pc' := 82) (v := x4 + 1) rfl rfl (lt_b rfl) rfl rfl dX9_hasSomebody_79 ?_
      refine j_goto (tg := 3) rfl dX9_hasSomebody_82 ?_
      obtain rfl := Option.some.inj hk
      exact hc _ _ rfl _
    · have hk := (if_pos c3).symm.trans hk
      obtain rfl := Option.some.inj hk
      exact hx0 _ rfl _ _ _ _ _ _
theorem qM_hasSomebody_s3 {σ : Mem} {x1 : Int32} {x2 : Int32} {x3 : Int32} {x4 : Int32} {o5 : Option AV} {out : (Int32 × Mem) ⊕ ((Mem) ⊕ (Mem))} (hk : kM_hasSomebody_s3 x1 x2 x3 (x4, σ) = some out) (hc : ∀ (z4 : Int32) (ς : Mem), out = .inl (z4, ς) → ∀ (o5 : Option AV), J l D dA H0 YM_hasSomebody h0 Po 0 0 (hp ς) 3 [some (vR (some (30, 0))), some (vI x1), some (vI x2), some (vI x3), some (vI z4), o5] []) (hx0 : ∀ (ς : Mem), out = .inr (.inl ς) → ∀ (o0 o1 o2 o3 o4 o5 : Option AV), J l D dA H0 YM_hasSomebody h0 Po 0 0 (hp ς) 77 [o0, o1, o2, o3, o4, o5] []) (hx1 : ∀ (ς : Mem), out = .inr (.inr ς) → ∀ (o0 o1 o2 o3 o4 o5 : Option AV), J l D dA H0 YM_hasSomebody h0 Po 0 0 (hp ς) 85 [o0, o1, o2, o3, o4, o5] []) : J l D dA H0 YM_hasSomebody h0 Po 0 0 (hp σ) 3 [some (vR (some (30, 0))), some (vI x1), some (vI x2), some (vI x3), some (vI x4), o5] [] := by
  unfold kM_hasSomebody_s3 at hk
  refine j_iload (pc' := 5) rfl rfl dX9_hasSomebody_3 ?_
  refine j_aload_n (pc' := 6) rfl rfl dX9_hasSomebody_5 ?_
  refine j_getf (pc' := 9) fg_RX9_117 (hp_e rfl) rfl rfl dX9_hasSomebody_6 ?_
  refine j_ic_ge (pc' := 12) (tg := 85) rfl rfl dX9_hasSomebody_9 (fun c8 => ?_) (fun c8 => ?_)
  · have hk := (if_pos c8).symm.trans hk
    obtain rfl := Option.some.inj hk
    exact hx1 _ rfl _ _ _ _ _ _
  · have hk := (if_neg c8).symm.trans hk
    refine j_aload_n (pc' := 13) rfl rfl dX9_hasSomebody_12 ?_
    refine j_getf (pc' := 16) fg_RX9_64 (hp_e rfl) rfl rfl dX9_hasSomebody_13 ?_
    refine j_bipush (pc' := 18) (v := 60) rfl rfl dX9_hasSomebody_16 ?_
    refine j_iload (pc' := 20) rfl rfl dX9_hasSomebody_18 ?_
    refine j_imul (pc' := 21) rfl dX9_hasSomebody_20 ?_
    refine j_iload_n (pc' := 22) rfl rfl dX9_hasSomebody_21 ?_
    refine j_iadd (pc' := 23) rfl dX9_hasSomebody_22 ?_
    obtain ⟨g1, hk⟩ := of_ite hk
    refine j_iald (pc' := 24) (hp_e rfl) (inR_in g1) rfl dX9_hasSomebody_23 ?_
    refine j_istore (pc' := 26) (lt_b rfl) rfl rfl dX9_hasSomebody_24 ?_
    refine j_iload (pc' := 28) rfl rfl dX9_hasSomebody_26 ?_
    refine j_iconst (pc' := 29) (v := (-1)) rfl rfl dX9_hasSomebody_28 ?_
    refine j_ic_ne (pc' := 32) (tg := 35) rfl rfl dX9_hasSomebody_29 (fun c7 => ?_) (fun c7 => ?_)
    · have hk := (if_neg c7).symm.trans hk
      refine j_iload (pc' := 37) rfl rfl dX9_hasSomebody_35 ?_
      refine j_bipush (pc' := 39) (v := 32) rfl rfl dX9_hasSomebody_37 ?_
      refine j_idiv (pc' := 40) (by decide) rfl dX9_hasSomebody_39 ?_
      refine j_iload_n (pc' := 41) rfl rfl dX9_hasSomebody_40 ?_
      refine j_ic_ne (pc' := 44) (tg := 55) rfl rfl dX9_hasSomebody_41 (fun c6 => ?_) (fun c6 => ?_)
      · have hk := (if_neg c6).symm.trans hk
        exact qM_hasSomebody_j55 hk hc hx0 hx1
      · have hk := (if_pos c6).symm.trans hk
        refine j_iload (pc' := 46) rfl rfl dX9_hasSomebody_44 ?_
        refine j_bipush (pc' := 48) (v := 32) rfl rfl dX9_hasSomebody_46 ?_
        refine j_irem (pc' := 49) (by decide) rfl dX9_hasSomebody_48 ?_
        refine j_iconst (pc' := 50) (v := 4) rfl rfl dX9_hasSomebody_49 ?_
        refine j_idiv (pc' := 51) (by decide) rfl dX9_hasSomebody_50 ?_
        refine j_iload_n (pc' := 52) rfl rfl dX9_hasSomebody_51 ?_
        refine j_ic_eq (pc' := 55) (tg := 77) rfl rfl dX9_hasSomebody_52 (fun c5 => ?_) (fun c5 => ?_)
        · have hk := (if_pos c5).symm.trans hk
          obtain rfl := Option.some.inj hk
          exact hx0 _ rfl _ _ _ _ _ _
        · have hk := (if_neg c5).symm.trans hk
          exact qM_hasSomebody_j55 hk hc hx0 hx1
    · have hk := (if_pos c7).symm.trans hk
      refine j_goto (tg := 79) rfl dX9_hasSomebody_32 ?_
      refine j_iinc (pc' := 82) (v := x4 + 1) rfl rfl (lt_b rfl) rfl rfl dX9_hasSomebody_79 ?_
      refine j_goto (tg := 3) rfl dX9_hasSomebody_82 ?_
      obtain rfl := Option.some.inj hk
      exact hc _ _ rfl _
theorem lM_hasSomebody_s3 {x1 : Int32} {x2 : Int32} {x3 : Int32} : ∀ (n : Nat) (x4 : Int32) (σ : Mem) (e : ((Mem) ⊕ (Mem))), loopF n (kM_hasSomebody_s3 x1 x2 x3) (x4, σ) = some e → (∀ (ς : Mem), e = (.inl ς) → ∀ (o0 o1 o2 o3 o4 o5 : Option AV), J l D dA H0 YM_hasSomebody h0 Po 0 0 (hp ς) 77 [o0, o1, o2, o3, o4, o5] []) → (∀ (ς : Mem), e = (.inr ς) → ∀ (o0 o1 o2 o3 o4 o5 : Option AV), J l D dA H0 YM_hasSomebody h0 Po 0 0 (hp ς) 85 [o0, o1, o2, o3, o4, o5] []) → ∀ (o5 : Option AV), J l D dA H0 YM_hasSomebody h0 Po 0 0 (hp σ) 3 [some (vR (some (30, 0))), some (vI x1), some (vI x2), some (vI x3), some (vI x4), o5] []
  | 0, x4, σ, e, he => by cases he
  | n + 1, x4, σ, e, he => by
    intro hx0 hx1 o5
    rcases loopF_succ he with ⟨s', h1, h2⟩ | h1
    · refine qM_hasSomebody_s3 h1 ?_ ?_ ?_
      · intro z4 ς ee
        cases ee
        exact lM_hasSomebody_s3 n z4 ς e h2 hx0 hx1
      · intro ς ee
        cases ee
      · intro ς ee
        cases ee
    · refine qM_hasSomebody_s3 h1 ?_ ?_ ?_
      · intro z4 ς ee
        cases ee
      · intro ς ee
        exact hx0 ς (Sum.inr.inj ee)
      · intro ς ee
        exact hx1 ς (Sum.inr.inj ee)
theorem qM_hasSomebody_x77 {σ : Mem} {o0 : Option AV} {o1 : Option AV} {o2 : Option AV} {o3 : Option AV} {o4 : Option AV} {o5 : Option AV} {res : Int32 × Mem} (hk : kM_hasSomebody_x77 σ = some res) (hP : Po (some (vI res.1)) (hp res.2)) : J l D dA H0 YM_hasSomebody h0 Po 0 0 (hp σ) 77 [o0, o1, o2, o3, o4, o5] [] := by
  unfold kM_hasSomebody_x77 at hk
  refine j_iconst (pc' := 78) (v := 1) rfl rfl dX9_hasSomebody_77 ?_
  obtain rfl := Option.some.inj hk
  exact j_zret rfl rfl ⟨rfl, rfl⟩ dX9_hasSomebody_78 hP
theorem qM_hasSomebody_x85 {σ : Mem} {o0 : Option AV} {o1 : Option AV} {o2 : Option AV} {o3 : Option AV} {o4 : Option AV} {o5 : Option AV} {res : Int32 × Mem} (hk : kM_hasSomebody_x85 σ = some res) (hP : Po (some (vI res.1)) (hp res.2)) : J l D dA H0 YM_hasSomebody h0 Po 0 0 (hp σ) 85 [o0, o1, o2, o3, o4, o5] [] := by
  unfold kM_hasSomebody_x85 at hk
  refine j_iconst (pc' := 86) (v := 0) rfl rfl dX9_hasSomebody_85 ?_
  obtain rfl := Option.some.inj hk
  exact j_zret rfl rfl ⟨rfl, rfl⟩ dX9_hasSomebody_86 hP
theorem qM_hasSomebody {σ : Mem} {x1 : Int32} {x2 : Int32} {x3 : Int32} {o4 : Option AV} {o5 : Option AV} {res : Int32 × Mem} (hk : kM_hasSomebody σ x1 x2 x3 = some res) (hP : Po (some (vI res.1)) (hp res.2)) : J l D dA H0 YM_hasSomebody h0 Po 0 0 (hp σ) 0 [some (vR (some (30, 0))), some (vI x1), some (vI x2), some (vI x3), o4, o5] [] := by
  unfold kM_hasSomebody at hk
  refine j_iconst (pc' := 1) (v := 0) rfl rfl dX9_hasSomebody_0 ?_
  refine j_istore (pc' := 3) (lt_b rfl) rfl rfl dX9_hasSomebody_1 ?_
  obtain ⟨e, he, hk⟩ := of_bind hk
  refine lM_hasSomebody_s3 FU _ _ e he ?_ ?_ _
  · intro ς ee _ _ _ _ _ _
    subst ee
    exact qM_hasSomebody_x77 hk hP
  · intro ς ee _ _ _ _ _ _
    subst ee
    exact qM_hasSomebody_x85 hk hP
theorem LM_hasSomebody {σ σ' : Mem} {x1 : Int32} {x2 : Int32} {x3 : Int32} {r : Int32} (hk : kM_hasSomebody σ x1 x2 x3 = some (r, σ')) : M l D dA H0 yX9_hasSomebody YM_hasSomebody [vR (some (30, 0)), vI x1, vI x2, vI x3] (hp σ) (fun x h' => x = some (vI r) ∧ h' = hp σ') :=
  m_of (j := 2) (by decide) rfl (fun hh => by cases hh) ⟨fun _ _ => trivial, rfl⟩ (le_b rfl) (qM_hasSomebody hk ⟨rfl, rfl⟩)
theorem qM_rooms_j94 {σ : Mem} {x1 : Int32} {x2 : Int32} {x3 : Int32} {x4 : Int32} {x5 : Int32} {x6 : Int32} {y0 : Int32} {y1 : Int32} {out : Int32 × Int32 × Mem ⊕ (Int32 × Mem)} (hk : kM_rooms_j94 σ x1 x2 x3 x4 x5 x6 y0 y1 = some out) (hc : ∀ (z4 : Int32) (z6 : Int32) (ς : Mem), out = .inl (z4, z6, ς) → ∀ (_ : Unit), J l D dA H0 YM_rooms h0 Po 0 0 (hp ς) 76 [some (vR (some (30, 0))), some (vI x1), some (vI x2), some (vI x3), some (vI z4), some (vI x5), some (vI z6)] []) (hx0 : ∀ (z4 : Int32) (ς : Mem), out = .inr (z4, ς) → ∀ (o6 : Option AV), J l D dA H0 YM_rooms h0 Po 0 0 (hp ς) 122 [some (vR (some (30, 0))), some (vI x1), some (vI x2), some (vI x3), some (vI z4), some (vI x5), o6] []) : J l D dA H0 YM_rooms h0 Po 0 0 (hp σ) 94 [some (vR (some (30, 0))), some (vI x1), some (vI x2), some (vI x3), some (vI x4), some (vI x5), some (vI x6)] [vI y0, vI y1] := by
  unfold kM_rooms_j94 at hk
  refine j_ic_ge (pc' := 97) (tg := 122) rfl rfl dX9_rooms_94 (fun c12 => ?_) (fun c12 => ?_)
  · have hk := (if_pos c12).symm.trans hk
    obtain rfl := Option.some.inj hk
    exact hx0 _ _ rfl _
  · have hk := (if_neg c12).symm.trans hk
    refine j_iload_n (pc' := 98) rfl rfl dX9_rooms_97 ?_
    refine j_if_eq (pc' := 101) (tg := 113) rfl rfl dX9_rooms_98 (fun c11 => ?_) (fun c11 => ?_)
    · have hk := (if_pos c11).symm.trans hk
      refine j_iinc (pc' := 116) (v := x4 + 1) rfl rfl (lt_b rfl) rfl rfl dX9_rooms_113 ?_
      refine j_iinc (pc' := 119) (v := x6 + 1) rfl rfl (lt_b rfl) rfl rfl dX9_rooms_116 ?_
      refine j_goto (tg := 76) rfl dX9_rooms_119 ?_
      obtain rfl := Option.some.inj hk
      exact hc _ _ _ rfl ()
    · have hk := (if_neg c11).symm.trans hk
      refine j_aload_n (pc' := 102) rfl rfl dX9_rooms_101 ?_
      refine j_iload (pc' := 104) rfl rfl dX9_rooms_102 ?_
      refine j_iload (pc' := 106) rfl rfl dX9_rooms_104 ?_
      refine j_iload_n (pc' := 107) rfl rfl dX9_rooms_106 ?_
      obtain ⟨⟨r8, σ9⟩, hx, hk⟩ := of_bind hk
      refine j_cv1 (pc' := 110) (LM_hasSomebody hx) cv_RX9_213 ⟨le_b rfl, le_b rfl⟩ (hp_e rfl) rfl rfl (le_b rfl) ⟨rfl, rfl⟩ ⟨le_b rfl, le_b rfl⟩ rfl rfl dX9_rooms_107 ?_
      refine j_if_eq (pc' := 113) (tg := 116) rfl rfl dX9_rooms_110 (fun c10 => ?_) (fun c10 => ?_)
      · have hk := (if_pos c10).symm.trans hk
        refine j_iinc (pc' := 119) (v := x6 + 1) rfl rfl (lt_b rfl) rfl rfl dX9_rooms_116 ?_
        refine j_goto (tg := 76) rfl dX9_rooms_119 ?_
        obtain rfl := Option.some.inj hk
        exact hc _ _ _ rfl ()
      · have hk := (if_neg c10).symm.trans hk
        refine j_iinc (pc' := 116) (v := x4 + 1) rfl rfl (lt_b rfl) rfl rfl dX9_rooms_113 ?_
        refine j_iinc (pc' := 119) (v := x6 + 1) rfl rfl (lt_b rfl) rfl rfl dX9_rooms_116 ?_
        refine j_goto (tg := 76) rfl dX9_rooms_119 ?_
        obtain rfl := Option.some.inj hk
        exact hc _ _ _ rfl ()
theorem qM_rooms_s76 {σ : Mem} {x1 : Int32} {x2 : Int32} {x3 : Int32} {x5 : Int32} {x4 : Int32} {x6 : Int32} {out : (Int32 × Int32 × Mem) ⊕ (Int32 × Mem)} (hk : kM_rooms_s76 x1 x2 x3 x5 (x4, x6, σ) = some out) (hc : ∀ (z4 : Int32) (z6 : Int32) (ς : Mem), out = .inl (z4, z6, ς) → ∀ (_ : Unit), J l D dA H0 YM_rooms h0 Po 0 0 (hp ς) 76 [some (vR (some (30, 0))), some (vI x1), some (vI x2), some (vI x3), some (vI z4), some (vI x5), some (vI z6)] []) (hx0 : ∀ (z4 : Int32) (ς : Mem), out = .inr (z4, ς) → ∀ (o6 : Option AV), J l D dA H0 YM_rooms h0 Po 0 0 (hp ς) 122 [some (vR (some (30, 0))), some (vI x1), some (vI x2), some (vI x3), some (vI z4), some (vI x5), o6] []) : J l D dA H0 YM_rooms h0 Po 0 0 (hp σ) 76 [some (vR (some (30, 0))), some (vI x1), some (vI x2), some (vI x3), some (vI x4), some (vI x5), some (vI x6)] [] := by
  unfold kM_rooms_s76 at hk
  refine j_iload (pc' := 78) rfl rfl dX9_rooms_76 ?_
  refine j_iload_n (pc' := 79) rfl rfl dX9_rooms_78 ?_
  refine j_iconst (pc' := 80) (v := 3) rfl rfl dX9_rooms_79 ?_
  refine j_ic_ne (pc' := 83) (tg := 93) rfl rfl dX9_rooms_80 (fun c14 => ?_) (fun c14 => ?_)
  · have hk := (if_neg c14).symm.trans hk
    refine j_iconst (pc' := 94) (v := 1) rfl rfl dX9_rooms_93 ?_
    exact qM_rooms_j94 hk hc hx0
  · have hk := (if_pos c14).symm.trans hk
    refine j_aload_n (pc' := 84) rfl rfl dX9_rooms_83 ?_
    refine j_getf (pc' := 87) fg_RX9_20 (hp_e rfl) rfl rfl dX9_rooms_84 ?_
    refine j_iload (pc' := 89) rfl rfl dX9_rooms_87 ?_
    obtain ⟨g13, hk⟩ := of_ite hk
    refine j_iald (pc' := 90) (hp_e rfl) (inR_in g13) rfl dX9_rooms_89 ?_
    refine j_goto (tg := 94) rfl dX9_rooms_90 ?_
    exact qM_rooms_j94 hk hc hx0
theorem lM_rooms_s76 {x1 : Int32} {x2 : Int32} {x3 : Int32} {x5 : Int32} : ∀ (n : Nat) (x4 : Int32) (x6 : Int32) (σ : Mem) (e : (Int32 × Mem)), loopF n (kM_rooms_s76 x1 x2 x3 x5) (x4, x6, σ) = some e → (∀ (z4 : Int32) (ς : Mem), e = (z4, ς) → ∀ (o6 : Option AV), J l D dA H0 YM_rooms h0 Po 0 0 (hp ς) 122 [some (vR (some (30, 0))), some (vI x1), some (vI x2), some (vI x3), some (vI z4), some (vI x5), o6] []) → ∀ (_ : Unit), J l D dA H0 YM_rooms h0 Po 0 0 (hp σ) 76 [some (vR (some (30, 0))), some (vI x1), some (vI x2), some (vI x3), some (vI x4), some (vI x5), some (vI x6)] []
  | 0, x4, x6, σ, e, he => by cases he
  | n + 1, x4, x6, σ, e, he => by
    intro hx0 u
    rcases loopF_succ he with ⟨s', h1, h2⟩ | h1
    · refine qM_rooms_s76 h1 ?_ ?_
      · intro z4 z6 ς ee
        cases ee
        exact lM_rooms_s76 n z4 z6 ς e h2 hx0
      · intro z4 ς ee
        cases ee
    · refine qM_rooms_s76 h1 ?_ ?_
      · intro z4 z6 ς ee
        cases ee
      · intro z4 ς ee
        exact hx0 z4 ς (Sum.inr.inj ee)
theorem qM_rooms_x122 {σ : Mem} {x1 : Int32} {x2 : Int32} {x3 : Int32} {x4 : Int32} {x5 : Int32} {o6 : Option AV} {out : Int32 × Int32 × Mem ⊕ (Int32 × Mem)} (hk : kM_rooms_x122 σ x1 x2 x3 x4 x5 = some out) (hc : ∀ (z4 : Int32) (z5 : Int32) (ς : Mem), out = .inl (z4, z5, ς) → ∀ (o6 : Option AV), J l D dA H0 YM_rooms h0 Po 0 0 (hp ς) 42 [some (vR (some (30, 0))), some (vI x1), some (vI x2), some (vI x3), some (vI z4), some (vI z5), o6] []) (hx0 : ∀ (z4 : Int32) (ς : Mem), out = .inr (z4, ς) → ∀ (o0 o1 o2 o3 o5 o6 : Option AV), J l D dA H0 YM_rooms h0 Po 0 0 (hp ς) 128 [o0, o1, o2, o3, some (vI z4), o5, o6] []) : J l D dA H0 YM_rooms h0 Po 0 0 (hp σ) 122 [some (vR (some (30, 0))), some (vI x1), some (vI x2), some (vI x3), some (vI x4), some (vI x5), o6] [] := by
  unfold kM_rooms_x122 at hk
  refine j_iinc (pc' := 125) (v := x5 + 1) rfl rfl (lt_b rfl) rfl rfl dX9_rooms_122 ?_
  refine j_goto (tg := 42) rfl dX9_rooms_125 ?_
  obtain rfl := Option.some.inj hk
  exact hc _ _ _ rfl _
theorem qM_rooms_s42 {σ : Mem} {x1 : Int32} {x2 : Int32} {x3 : Int32} {x4 : Int32} {x5 : Int32} {o6 : Option AV} {out : (Int32 × Int32 × Mem) ⊕ (Int32 × Mem)} (hk : kM_rooms_s42 x1 x2 x3 (x4, x5, σ) = some out) (hc : ∀ (z4 : Int32) (z5 : Int32) (ς : Mem), out = .inl (z4, z5, ς) → ∀ (o6 : Option AV), J l D dA H0 YM_rooms h0 Po 0 0 (hp ς) 42 [some (vR (some (30, 0))), some (vI x1), some (vI x2), some (vI x3), some (vI z4), some (vI z5), o6] []) (hx0 : ∀ (z4 : Int32) (ς : Mem), out = .inr (z4, ς) → ∀ (o0 o1 o2 o3 o5 o6 : Option AV), J l D dA H0 YM_rooms h0 Po 0 0 (hp ς) 128 [o0, o1, o2, o3, some (vI z4), o5, o6] []) : J l D dA H0 YM_rooms h0 Po 0 0 (hp σ) 42 [some (vR (some (30, 0))), some (vI x1), some (vI x2), some (vI x3), some (vI x4), some (vI x5), o6] [] := by
  unfold kM_rooms_s42 at hk
  refine j_iload (pc' := 44) rfl rfl dX9_rooms_42 ?_
  refine j_bipush (pc' := 46) (v := 16) rfl rfl dX9_rooms_44 ?_
  refine j_ic_ge (pc' := 49) (tg := 128) rfl rfl dX9_rooms_46 (fun c17 => ?_) (fun c17 => ?_)
  · have hk := (if_pos c17).symm.trans hk
    obtain rfl := Option.some.inj hk
    exact hx0 _ _ rfl _ _ _ _ _ _
  · have hk := (if_neg c17).symm.trans hk
    refine j_aload_n (pc' := 50) rfl rfl dX9_rooms_49 ?_
    refine j_getf (pc' := 53) fg_RX9_13 (hp_e rfl) rfl rfl dX9_rooms_50 ?_
    refine j_iload (pc' := 55) rfl rfl dX9_rooms_53 ?_
    obtain ⟨g5, hk⟩ := of_ite hk
    refine j_iald (pc' := 56) (hp_e rfl) (inR_in g5) rfl dX9_rooms_55 ?_
    refine j_iload_n (pc' := 57) rfl rfl dX9_rooms_56 ?_
    refine j_ic_ne (pc' := 60) (tg := 122) rfl rfl dX9_rooms_57 (fun c16 => ?_) (fun c16 => ?_)
    · have hk := (if_neg c16).symm.trans hk
      refine j_iinc (pc' := 125) (v := x5 + 1) rfl rfl (lt_b rfl) rfl rfl dX9_rooms_122 ?_
      refine j_goto (tg := 42) rfl dX9_rooms_125 ?_
      obtain rfl := Option.some.inj hk
      exact hc _ _ _ rfl _
    · have hk := (if_pos c16).symm.trans hk
      refine j_aload_n (pc' := 61) rfl rfl dX9_rooms_60 ?_
      refine j_iload (pc' := 63) rfl rfl dX9_rooms_61 ?_
      refine j_iload_n (pc' := 64) rfl rfl dX9_rooms_63 ?_
      obtain ⟨⟨r6, σ7⟩, hx, hk⟩ := of_bind hk
      refine j_cv1 (pc' := 67) (LM_isOpen hx) cv_RX9_126 ⟨le_b rfl, le_b rfl⟩ (hp_e rfl) rfl rfl (le_b rfl) ⟨rfl, rfl⟩ ⟨le_b rfl, le_b rfl⟩ rfl rfl dX9_rooms_64 ?_
      refine j_if_ne (pc' := 70) (tg := 73) rfl rfl dX9_rooms_67 (fun c15 => ?_) (fun c15 => ?_)
      · have hk := (if_neg c15).symm.trans hk
        refine j_iconst (pc' := 74) (v := 0) rfl rfl dX9_rooms_73 ?_
        refine j_istore (pc' := 76) (lt_b rfl) rfl rfl dX9_rooms_74 ?_
        obtain ⟨e, he, hk⟩ := of_bind hk
        refine lM_rooms_s76 FU _ _ _ e he ?_ ()
        · intro z4 ς ee _
          subst ee
          exact qM_rooms_x122 hk hc hx0
      · have hk := (if_pos c15).symm.trans hk
        refine j_goto (tg := 122) rfl dX9_rooms_70 ?_
        refine j_iinc (pc' := 125) (v := x5 + 1) rfl rfl (lt_b rfl) rfl rfl dX9_rooms_122 ?_
        refine j_goto (tg := 42) rfl dX9_rooms_125 ?_
        obtain rfl := Option.some.inj hk
        exact hc _ _ _ rfl _
theorem lM_rooms_s42 {x1 : Int32} {x2 : Int32} {x3 : Int32} : ∀ (n : Nat) (x4 : Int32) (x5 : Int32) (σ : Mem) (e : (Int32 × Mem)), loopF n (kM_rooms_s42 x1 x2 x3) (x4, x5, σ) = some e → (∀ (z4 : Int32) (ς : Mem), e = (z4, ς) → ∀ (o0 o1 o2 o3 o5 o6 : Option AV), J l D dA H0 YM_rooms h0 Po 0 0 (hp ς) 128 [o0, o1, o2, o3, some (vI z4), o5, o6] []) → ∀ (o6 : Option AV), J l D dA H0 YM_rooms h0 Po 0 0 (hp σ) 42 [some (vR (some (30, 0))), some (vI x1), some (vI x2), some (vI x3), some (vI x4), some (vI x5), o6] []
  | 0, x4, x5, σ, e, he => by cases he
  | n + 1, x4, x5, σ, e, he => by
    intro hx0 o6
    rcases loopF_succ he with ⟨s', h1, h2⟩ | h1
    · refine qM_rooms_s42 h1 ?_ ?_
      · intro z4 z5 ς ee
        cases ee
        exact lM_rooms_s42 n z4 z5 ς e h2 hx0
      · intro z4 ς ee
        cases ee
    · refine qM_rooms_s42 h1 ?_ ?_
      · intro z4 z5 ς ee
        cases ee
      · intro z4 ς ee
        exact hx0 z4 ς (Sum.inr.inj ee)
theorem qM_rooms_x128 {σ : Mem} {x4 : Int32} {o0 : Option AV} {o1 : Option AV} {o2 : Option AV} {o3 : Option AV} {o5 : Option AV} {o6 : Option AV} {res : Int32 × Mem} (hk : kM_rooms_x128 σ x4 = some res) (hP : Po (some (vI res.1)) (hp res.2)) : J l D dA H0 YM_rooms h0 Po 0 0 (hp σ) 128 [o0, o1, o2, o3, some (vI x4), o5, o6] [] := by
  unfold kM_rooms_x128 at hk
  refine j_iload (pc' := 130) rfl rfl dX9_rooms_128 ?_
  obtain rfl := Option.some.inj hk
  exact j_iret rfl ⟨rfl, rfl⟩ dX9_rooms_130 hP
theorem qM_rooms {σ : Mem} {x1 : Int32} {x2 : Int32} {x3 : Int32} {o4 : Option AV} {o5 : Option AV} {o6 : Option AV} {res : Int32 × Mem} (hk : kM_rooms σ x1 x2 x3 = some res) (hP : Po (some (vI res.1)) (hp res.2)) : J l D dA H0 YM_rooms h0 Po 0 0 (hp σ) 0 [some (vR (some (30, 0))), some (vI x1), some (vI x2), some (vI x3), o4, o5, o6] [] := by
  unfold kM_rooms at hk
  refine j_aload_n (pc' := 1) rfl rfl dX9_rooms_0 ?_
  refine j_iconst (pc' := 2) (v := 0) rfl rfl dX9_rooms_1 ?_
  refine j_pi (pc' := 5) (ty := .int) fg_RX9_1 ttX9 rfl rfl ⟨rfl, rfl⟩ rfl (lt_b rfl) rfl rfl dX9_rooms_2 ?_
  refine j_iload_n (pc' := 6) rfl rfl dX9_rooms_5 ?_
  refine j_if_lt (pc' := 9) (tg := 30) rfl rfl dX9_rooms_6 (fun c22 => ?_) (fun c22 => ?_)
  · have hk := (if_pos c22).symm.trans hk
    refine j_iconst (pc' := 31) (v := (-1)) rfl rfl dX9_rooms_30 ?_
    obtain rfl := Option.some.inj hk
    exact j_iret rfl ⟨rfl, rfl⟩ dX9_rooms_31 hP
  · have hk := (if_neg c22).symm.trans hk
    refine j_iload_n (pc' := 10) rfl rfl dX9_rooms_9 ?_
    refine j_iconst (pc' := 11) (v := 3) rfl rfl dX9_rooms_10 ?_
    refine j_ic_gt (pc' := 14) (tg := 30) rfl rfl dX9_rooms_11 (fun c21 => ?_) (fun c21 => ?_)
    · have hk := (if_pos c21).symm.trans hk
      refine j_iconst (pc' := 31) (v := (-1)) rfl rfl dX9_rooms_30 ?_
      obtain rfl := Option.some.inj hk
      exact j_iret rfl ⟨rfl, rfl⟩ dX9_rooms_31 hP
    · have hk := (if_neg c21).symm.trans hk
      refine j_iload_n (pc' := 15) rfl rfl dX9_rooms_14 ?_
      obtain ⟨⟨r1, σ2⟩, hx, hk⟩ := of_bind hk
      refine j_cs1 (pc' := 18) (LM_isNight hx) cs_RX9_114 ⟨le_b rfl, le_b rfl⟩ rfl (le_b rfl) ⟨rfl, rfl⟩ ⟨le_b rfl, le_b rfl⟩ rfl rfl dX9_rooms_15 ?_
      refine j_if_eq (pc' := 21) (tg := 30) rfl rfl dX9_rooms_18 (fun c20 => ?_) (fun c20 => ?_)
      · have hk := (if_pos c20).symm.trans hk
        refine j_iconst (pc' := 31) (v := (-1)) rfl rfl dX9_rooms_30 ?_
        obtain rfl := Option.some.inj hk
        exact j_iret rfl ⟨rfl, rfl⟩ dX9_rooms_31 hP
      · have hk := (if_neg c20).symm.trans hk
        refine j_iload_n (pc' := 22) rfl rfl dX9_rooms_21 ?_
        refine j_if_lt (pc' := 25) (tg := 30) rfl rfl dX9_rooms_22 (fun c19 => ?_) (fun c19 => ?_)
        · have hk := (if_pos c19).symm.trans hk
          refine j_iconst (pc' := 31) (v := (-1)) rfl rfl dX9_rooms_30 ?_
          obtain rfl := Option.some.inj hk
          exact j_iret rfl ⟨rfl, rfl⟩ dX9_rooms_31 hP
        · have hk := (if_neg c19).symm.trans hk
          refine j_iload_n (pc' := 26) rfl rfl dX9_rooms_25 ?_
          refine j_iconst (pc' := 27) (v := 1) rfl rfl dX9_rooms_26 ?_
          refine j_ic_le (pc' := 30) (tg := 32) rfl rfl dX9_rooms_27 (fun c18 => ?_) (fun c18 => ?_)
          · have hk := (if_pos c18).symm.trans hk
            refine j_aload_n (pc' := 33) rfl rfl dX9_rooms_32 ?_
            obtain ⟨⟨_, σ4⟩, hx, hk⟩ := of_bind hk
            refine j_cv0 (pc' := 36) (LM_plans hx) cv_RX9_210 ⟨le_b rfl, le_b rfl⟩ (hp_e rfl) rfl rfl (le_b rfl) ⟨rfl, rfl⟩ ⟨le_b rfl, le_b rfl⟩ rfl rfl dX9_rooms_33 ?_
            refine j_iconst (pc' := 37) (v := 0) rfl rfl dX9_rooms_36 ?_
            refine j_istore (pc' := 39) (lt_b rfl) rfl rfl dX9_rooms_37 ?_
            refine j_iconst (pc' := 40) (v := 0) rfl rfl dX9_rooms_39 ?_
            refine j_istore (pc' := 42) (lt_b rfl) rfl rfl dX9_rooms_40 ?_
            obtain ⟨e, he, hk⟩ := of_bind hk
            refine lM_rooms_s42 FU _ _ _ e he ?_ _
            · intro z4 ς ee _ _ _ _ _ _
              subst ee
              exact qM_rooms_x128 hk hP
          · have hk := (if_neg c18).symm.trans hk
            refine j_iconst (pc' := 31) (v := (-1)) rfl rfl dX9_rooms_30 ?_
            obtain rfl := Option.some.inj hk
            exact j_iret rfl ⟨rfl, rfl⟩ dX9_rooms_31 hP
theorem LM_rooms {σ σ' : Mem} {x1 : Int32} {x2 : Int32} {x3 : Int32} {r : Int32} (hk : kM_rooms σ x1 x2 x3 = some (r, σ')) : M l D dA H0 yX9_rooms YM_rooms [vR (some (30, 0)), vI x1, vI x2, vI x3] (hp σ) (fun x h' => x = some (vI r) ∧ h' = hp σ') :=
  m_of (j := 3) (by decide) rfl (fun hh => by cases hh) ⟨fun _ _ => trivial, rfl⟩ (le_b rfl) (qM_rooms hk ⟨rfl, rfl⟩)
theorem qM_over {σ : Mem} {x1 : Int32} {res : Int32 × Mem} (hk : kM_over σ x1 = some res) (hP : Po (some (vI res.1)) (hp res.2)) : J l D dA H0 YM_over h0 Po 0 0 (hp σ) 0 [some (vR (some (30, 0))), some (vI x1)] [] := by
  unfold kM_over at hk
  refine j_aload_n (pc' := 1) rfl rfl dX9_over_0 ?_
  refine j_iconst (pc' := 2) (v := 0) rfl rfl dX9_over_1 ?_
  refine j_pi (pc' := 5) (ty := .int) fg_RX9_1 ttX9 rfl rfl ⟨rfl, rfl⟩ rfl (lt_b rfl) rfl rfl dX9_over_2 ?_
  refine j_iload_n (pc' := 6) rfl rfl dX9_over_5 ?_
  refine j_if_lt (pc' := 9) (tg := 15) rfl rfl dX9_over_6 (fun c2 => ?_) (fun c2 => ?_)
  · have hk := (if_pos c2).symm.trans hk
    refine j_iconst (pc' := 16) (v := 0) rfl rfl dX9_over_15 ?_
    obtain rfl := Option.some.inj hk
    exact j_zret rfl rfl ⟨rfl, rfl⟩ dX9_over_16 hP
  · have hk := (if_neg c2).symm.trans hk
    refine j_iload_n (pc' := 10) rfl rfl dX9_over_9 ?_
    refine j_bipush (pc' := 12) (v := 40) rfl rfl dX9_over_10 ?_
    refine j_ic_le (pc' := 15) (tg := 17) rfl rfl dX9_over_12 (fun c1 => ?_) (fun c1 => ?_)
    · have hk := (if_pos c1).symm.trans hk
      refine j_aload_n (pc' := 18) rfl rfl dX9_over_17 ?_
      refine j_iload_n (pc' := 19) rfl rfl dX9_over_18 ?_
      refine j_pi (pc' := 22) (ty := .int) fg_RX9_190 ttX9 rfl rfl ⟨rfl, rfl⟩ rfl (lt_b rfl) rfl rfl dX9_over_19 ?_
      refine j_iconst (pc' := 23) (v := 1) rfl rfl dX9_over_22 ?_
      obtain rfl := Option.some.inj hk
      exact j_zret rfl rfl ⟨rfl, rfl⟩ dX9_over_23 hP
    · have hk := (if_neg c1).symm.trans hk
      refine j_iconst (pc' := 16) (v := 0) rfl rfl dX9_over_15 ?_
      obtain rfl := Option.some.inj hk
      exact j_zret rfl rfl ⟨rfl, rfl⟩ dX9_over_16 hP
theorem LM_over {σ σ' : Mem} {x1 : Int32} {r : Int32} (hk : kM_over σ x1 = some (r, σ')) : M l D dA H0 yX9_over YM_over [vR (some (30, 0)), vI x1] (hp σ) (fun x h' => x = some (vI r) ∧ h' = hp σ') :=
  m_of (j := 0) (by decide) rfl (fun hh => by cases hh) ⟨fun _ _ => trivial, rfl⟩ (le_b rfl) (qM_over hk ⟨rfl, rfl⟩)
theorem qM_price_s39 {σ : Mem} {x1 : Int32} {x3 : Int32} {x4 : Int32} {x5 : Int32} {o2 : Option AV} {out : (Int32 × Mem) ⊕ (Mem)} (hk : kM_price_s39 x1 x3 x4 (x5, σ) = some out) (hc : ∀ (z5 : Int32) (ς : Mem), out = .inl (z5, ς) → ∀ (o2 : Option AV), J l D dA H0 YM_price h0 Po 0 0 (hp ς) 39 [some (vR (some (30, 0))), some (vI x1), o2, some (vI x3), some (vI x4), some (vI z5)] []) (hx0 : ∀ (ς : Mem), out = .inr ς → ∀ (o0 o1 o2 o3 o4 o5 : Option AV), J l D dA H0 YM_price h0 Po 0 0 (hp ς) 65 [o0, o1, o2, o3, o4, o5] []) : J l D dA H0 YM_price h0 Po 0 0 (hp σ) 39 [some (vR (some (30, 0))), some (vI x1), o2, some (vI x3), some (vI x4), some (vI x5)] [] := by
  unfold kM_price_s39 at hk
  refine j_iload (pc' := 41) rfl rfl dX9_price_39 ?_
  refine j_iload_n (pc' := 42) rfl rfl dX9_price_41 ?_
  refine j_ic_ge (pc' := 45) (tg := 65) rfl rfl dX9_price_42 (fun c4 => ?_) (fun c4 => ?_)
  · have hk := (if_pos c4).symm.trans hk
    obtain rfl := Option.some.inj hk
    exact hx0 _ rfl _ _ _ _ _ _
  · have hk := (if_neg c4).symm.trans hk
    refine j_aload_n (pc' := 46) rfl rfl dX9_price_45 ?_
    refine j_getf (pc' := 49) fg_RX9_82 (hp_e rfl) rfl rfl dX9_price_46 ?_
    refine j_bipush (pc' := 51) (v := 60) rfl rfl dX9_price_49 ?_
    refine j_iload_n (pc' := 52) rfl rfl dX9_price_51 ?_
    refine j_imul (pc' := 53) rfl dX9_price_52 ?_
    refine j_iload (pc' := 55) rfl rfl dX9_price_53 ?_
    refine j_iadd (pc' := 56) rfl dX9_price_55 ?_
    refine j_iload (pc' := 58) rfl rfl dX9_price_56 ?_
    obtain ⟨g3, hk⟩ := of_ite hk
    refine j_si (pc' := 59) (fun _ _ _ => rfl) (inR_in g3) rfl dX9_price_58 ?_
    refine j_iinc (pc' := 62) (v := x5 + 1) rfl rfl (lt_b rfl) rfl rfl dX9_price_59 ?_
    refine j_goto (tg := 39) rfl dX9_price_62 ?_
    obtain rfl := Option.some.inj hk
    exact hc _ _ rfl _
theorem lM_price_s39 {x1 : Int32} {x3 : Int32} {x4 : Int32} : ∀ (n : Nat) (x5 : Int32) (σ : Mem) (e : (Mem)), loopF n (kM_price_s39 x1 x3 x4) (x5, σ) = some e → (∀ (ς : Mem), e = ς → ∀ (o0 o1 o2 o3 o4 o5 : Option AV), J l D dA H0 YM_price h0 Po 0 0 (hp ς) 65 [o0, o1, o2, o3, o4, o5] []) → ∀ (o2 : Option AV), J l D dA H0 YM_price h0 Po 0 0 (hp σ) 39 [some (vR (some (30, 0))), some (vI x1), o2, some (vI x3), some (vI x4), some (vI x5)] []
  | 0, x5, σ, e, he => by cases he
  | n + 1, x5, σ, e, he => by
    intro hx0 o2
    rcases loopF_succ he with ⟨s', h1, h2⟩ | h1
    · refine qM_price_s39 h1 ?_ ?_
      · intro z5 ς ee
        cases ee
        exact lM_price_s39 n z5 ς e h2 hx0
      · intro ς ee
        cases ee
    · refine qM_price_s39 h1 ?_ ?_
      · intro z5 ς ee
        cases ee
      · intro ς ee
        exact hx0 ς (Sum.inr.inj ee)
theorem qM_price_x65 {σ : Mem} {o0 : Option AV} {o1 : Option AV} {o2 : Option AV} {o3 : Option AV} {o4 : Option AV} {o5 : Option AV} {res : Int32 × Mem} (hk : kM_price_x65 σ = some res) (hP : Po (some (vI res.1)) (hp res.2)) : J l D dA H0 YM_price h0 Po 0 0 (hp σ) 65 [o0, o1, o2, o3, o4, o5] [] := by
  unfold kM_price_x65 at hk
  refine j_iconst (pc' := 66) (v := 1) rfl rfl dX9_price_65 ?_
  obtain rfl := Option.some.inj hk
  exact j_zret rfl rfl ⟨rfl, rfl⟩ dX9_price_66 hP
theorem qM_price {σ : Mem} {x1 : Int32} {x2 : Int32} {x3 : Int32} {x4 : Int32} {o5 : Option AV} {res : Int32 × Mem} (hk : kM_price σ x1 x2 x3 x4 = some res) (hP : Po (some (vI res.1)) (hp res.2)) : J l D dA H0 YM_price h0 Po 0 0 (hp σ) 0 [some (vR (some (30, 0))), some (vI x1), some (vI x2), some (vI x3), some (vI x4), o5] [] := by
  unfold kM_price at hk
  refine j_aload_n (pc' := 1) rfl rfl dX9_price_0 ?_
  refine j_iconst (pc' := 2) (v := 0) rfl rfl dX9_price_1 ?_
  refine j_pi (pc' := 5) (ty := .int) fg_RX9_1 ttX9 rfl rfl ⟨rfl, rfl⟩ rfl (lt_b rfl) rfl rfl dX9_price_2 ?_
  refine j_iload_n (pc' := 6) rfl rfl dX9_price_5 ?_
  refine j_if_lt (pc' := 9) (tg := 34) rfl rfl dX9_price_6 (fun c9 => ?_) (fun c9 => ?_)
  · have hk := (if_pos c9).symm.trans hk
    refine j_iconst (pc' := 35) (v := 0) rfl rfl dX9_price_34 ?_
    obtain rfl := Option.some.inj hk
    exact j_zret rfl rfl ⟨rfl, rfl⟩ dX9_price_35 hP
  · have hk := (if_neg c9).symm.trans hk
    refine j_iload_n (pc' := 10) rfl rfl dX9_price_9 ?_
    refine j_iconst (pc' := 11) (v := 4) rfl rfl dX9_price_10 ?_
    refine j_ic_gt (pc' := 14) (tg := 34) rfl rfl dX9_price_11 (fun c8 => ?_) (fun c8 => ?_)
    · have hk := (if_pos c8).symm.trans hk
      refine j_iconst (pc' := 35) (v := 0) rfl rfl dX9_price_34 ?_
      obtain rfl := Option.some.inj hk
      exact j_zret rfl rfl ⟨rfl, rfl⟩ dX9_price_35 hP
    · have hk := (if_neg c8).symm.trans hk
      refine j_iload_n (pc' := 15) rfl rfl dX9_price_14 ?_
      refine j_iload_n (pc' := 16) rfl rfl dX9_price_15 ?_
      obtain ⟨⟨r1, σ2⟩, hx, hk⟩ := of_bind hk
      refine j_cs1 (pc' := 19) (LM_isSpan hx) cs_RX9_110 ⟨le_b rfl, le_b rfl⟩ rfl (le_b rfl) ⟨rfl, rfl⟩ ⟨le_b rfl, le_b rfl⟩ rfl rfl dX9_price_16 ?_
      refine j_if_eq (pc' := 22) (tg := 34) rfl rfl dX9_price_19 (fun c7 => ?_) (fun c7 => ?_)
      · have hk := (if_pos c7).symm.trans hk
        refine j_iconst (pc' := 35) (v := 0) rfl rfl dX9_price_34 ?_
        obtain rfl := Option.some.inj hk
        exact j_zret rfl rfl ⟨rfl, rfl⟩ dX9_price_35 hP
      · have hk := (if_neg c7).symm.trans hk
        refine j_iload (pc' := 24) rfl rfl dX9_price_22 ?_
        refine j_if_lt (pc' := 27) (tg := 34) rfl rfl dX9_price_24 (fun c6 => ?_) (fun c6 => ?_)
        · have hk := (if_pos c6).symm.trans hk
          refine j_iconst (pc' := 35) (v := 0) rfl rfl dX9_price_34 ?_
          obtain rfl := Option.some.inj hk
          exact j_zret rfl rfl ⟨rfl, rfl⟩ dX9_price_35 hP
        · have hk := (if_neg c6).symm.trans hk
          refine j_iload (pc' := 29) rfl rfl dX9_price_27 ?_
          refine j_ldc (pc' := 31) (v := 1000000) (gd_of (i := 1157) (by decide +kernel) rfl) rfl dX9_price_29 ?_
          refine j_ic_le (pc' := 34) (tg := 36) rfl rfl dX9_price_31 (fun c5 => ?_) (fun c5 => ?_)
          · have hk := (if_pos c5).symm.trans hk
            refine j_iload_n (pc' := 37) rfl rfl dX9_price_36 ?_
            refine j_istore (pc' := 39) (lt_b rfl) rfl rfl dX9_price_37 ?_
            obtain ⟨e, he, hk⟩ := of_bind hk
            refine lM_price_s39 FU _ _ e he ?_ _
            · intro ς ee _ _ _ _ _ _
              subst ee
              exact qM_price_x65 hk hP
          · have hk := (if_neg c5).symm.trans hk
            refine j_iconst (pc' := 35) (v := 0) rfl rfl dX9_price_34 ?_
            obtain rfl := Option.some.inj hk
            exact j_zret rfl rfl ⟨rfl, rfl⟩ dX9_price_35 hP
theorem LM_price {σ σ' : Mem} {x1 : Int32} {x2 : Int32} {x3 : Int32} {x4 : Int32} {r : Int32} (hk : kM_price σ x1 x2 x3 x4 = some (r, σ')) : M l D dA H0 yX9_price YM_price [vR (some (30, 0)), vI x1, vI x2, vI x3, vI x4] (hp σ) (fun x h' => x = some (vI r) ∧ h' = hp σ') :=
  m_of (j := 1) (by decide) rfl (fun hh => by cases hh) ⟨fun _ _ => trivial, rfl⟩ (le_b rfl) (qM_price hk ⟨rfl, rfl⟩)
theorem qM_rule_j57 {σ : Mem} {x1 : Int32} {x2 : Int32} {x3 : Int32} {y0 : Int32} {o4 : Option AV} {res : Int32 × Mem} (hk : kM_rule_j57 σ x1 x2 x3 y0 = some res) (hP : Po (some (vI res.1)) (hp res.2)) : J l D dA H0 YM_rule h0 Po 0 0 (hp σ) 57 [some (vR (some (30, 0))), some (vI x1), some (vI x2), some (vI x3), o4] [vI y0] := by
  unfold kM_rule_j57 at hk
  refine j_istore (pc' := 59) (lt_b rfl) rfl rfl dX9_rule_57 ?_
  refine j_aload_n (pc' := 60) rfl rfl dX9_rule_59 ?_
  refine j_getf (pc' := 63) fg_RX9_166 (hp_e rfl) rfl rfl dX9_rule_60 ?_
  refine j_bipush (pc' := 65) (v := 8) rfl rfl dX9_rule_63 ?_
  refine j_ic_eq (pc' := 68) (tg := 82) rfl rfl dX9_rule_65 (fun c8 => ?_) (fun c8 => ?_)
  · have hk := (if_pos c8).symm.trans hk
    refine j_iconst (pc' := 83) (v := (-1)) rfl rfl dX9_rule_82 ?_
    obtain rfl := Option.some.inj hk
    exact j_iret rfl ⟨rfl, rfl⟩ dX9_rule_83 hP
  · have hk := (if_neg c8).symm.trans hk
    refine j_iload_n (pc' := 69) rfl rfl dX9_rule_68 ?_
    refine j_if_lt (pc' := 72) (tg := 82) rfl rfl dX9_rule_69 (fun c7 => ?_) (fun c7 => ?_)
    · have hk := (if_pos c7).symm.trans hk
      refine j_iconst (pc' := 83) (v := (-1)) rfl rfl dX9_rule_82 ?_
      obtain rfl := Option.some.inj hk
      exact j_iret rfl ⟨rfl, rfl⟩ dX9_rule_83 hP
    · have hk := (if_neg c7).symm.trans hk
      refine j_iload_n (pc' := 73) rfl rfl dX9_rule_72 ?_
      refine j_iconst (pc' := 74) (v := 2) rfl rfl dX9_rule_73 ?_
      refine j_ic_gt (pc' := 77) (tg := 82) rfl rfl dX9_rule_74 (fun c6 => ?_) (fun c6 => ?_)
      · have hk := (if_pos c6).symm.trans hk
        refine j_iconst (pc' := 83) (v := (-1)) rfl rfl dX9_rule_82 ?_
        obtain rfl := Option.some.inj hk
        exact j_iret rfl ⟨rfl, rfl⟩ dX9_rule_83 hP
      · have hk := (if_neg c6).symm.trans hk
        refine j_iload (pc' := 79) rfl rfl dX9_rule_77 ?_
        refine j_if_ne (pc' := 82) (tg := 84) rfl rfl dX9_rule_79 (fun c5 => ?_) (fun c5 => ?_)
        · have hk := (if_neg c5).symm.trans hk
          refine j_aload_n (pc' := 85) rfl rfl dX9_rule_84 ?_
          refine j_getf (pc' := 88) fg_RX9_85 (hp_e rfl) rfl rfl dX9_rule_85 ?_
          refine j_aload_n (pc' := 89) rfl rfl dX9_rule_88 ?_
          refine j_getf (pc' := 92) fg_RX9_166 (hp_e rfl) rfl rfl dX9_rule_89 ?_
          refine j_iload_n (pc' := 93) rfl rfl dX9_rule_92 ?_
          obtain ⟨g1, hk⟩ := of_ite hk
          refine j_si (pc' := 94) (fun _ _ _ => rfl) (inR_in g1) rfl dX9_rule_93 ?_
          refine j_aload_n (pc' := 95) rfl rfl dX9_rule_94 ?_
          refine j_getf (pc' := 98) fg_RX9_88 (hp_e rfl) rfl rfl dX9_rule_95 ?_
          refine j_aload_n (pc' := 99) rfl rfl dX9_rule_98 ?_
          refine j_getf (pc' := 102) fg_RX9_166 (hp_e rfl) rfl rfl dX9_rule_99 ?_
          refine j_iload_n (pc' := 103) rfl rfl dX9_rule_102 ?_
          obtain ⟨g2, hk⟩ := of_ite hk
          refine j_si (pc' := 104) (fun _ _ _ => rfl) (inR_in g2) rfl dX9_rule_103 ?_
          refine j_aload_n (pc' := 105) rfl rfl dX9_rule_104 ?_
          refine j_getf (pc' := 108) fg_RX9_91 (hp_e rfl) rfl rfl dX9_rule_105 ?_
          refine j_aload_n (pc' := 109) rfl rfl dX9_rule_108 ?_
          refine j_getf (pc' := 112) fg_RX9_166 (hp_e rfl) rfl rfl dX9_rule_109 ?_
          refine j_iload_n (pc' := 113) rfl rfl dX9_rule_112 ?_
          obtain ⟨g3, hk⟩ := of_ite hk
          refine j_si (pc' := 114) (fun _ _ _ => rfl) (inR_in g3) rfl dX9_rule_113 ?_
          refine j_aload_n (pc' := 115) rfl rfl dX9_rule_114 ?_
          refine j_getf (pc' := 118) fg_RX9_94 (hp_e rfl) rfl rfl dX9_rule_115 ?_
          refine j_aload_n (pc' := 119) rfl rfl dX9_rule_118 ?_
          refine j_getf (pc' := 122) fg_RX9_166 (hp_e rfl) rfl rfl dX9_rule_119 ?_
          refine j_iconst (pc' := 123) (v := 1) rfl rfl dX9_rule_122 ?_
          obtain ⟨g4, hk⟩ := of_ite hk
          refine j_sz (pc' := 124) (fun _ _ _ => rfl) (inR_in g4) rfl dX9_rule_123 ?_
          refine j_aload_n (pc' := 125) rfl rfl dX9_rule_124 ?_
          refine j_dup (pc' := 126) rfl rfl dX9_rule_125 ?_
          refine j_getf (pc' := 129) fg_RX9_166 (hp_e rfl) rfl rfl dX9_rule_126 ?_
          refine j_iconst (pc' := 130) (v := 1) rfl rfl dX9_rule_129 ?_
          refine j_iadd (pc' := 131) rfl dX9_rule_130 ?_
          refine j_pi (pc' := 134) (ty := .int) fg_RX9_166 ttX9 rfl rfl ⟨rfl, rfl⟩ rfl (lt_b rfl) rfl rfl dX9_rule_131 ?_
          refine j_aload_n (pc' := 135) rfl rfl dX9_rule_134 ?_
          refine j_getf (pc' := 138) fg_RX9_166 (hp_e rfl) rfl rfl dX9_rule_135 ?_
          refine j_iconst (pc' := 139) (v := 1) rfl rfl dX9_rule_138 ?_
          refine j_isub (pc' := 140) rfl dX9_rule_139 ?_
          obtain rfl := Option.some.inj hk
          exact j_iret rfl ⟨rfl, rfl⟩ dX9_rule_140 hP
        · have hk := (if_pos c5).symm.trans hk
          refine j_iconst (pc' := 83) (v := (-1)) rfl rfl dX9_rule_82 ?_
          obtain rfl := Option.some.inj hk
          exact j_iret rfl ⟨rfl, rfl⟩ dX9_rule_83 hP
theorem qM_rule_j56 {σ : Mem} {x1 : Int32} {x2 : Int32} {x3 : Int32} {o4 : Option AV} {res : Int32 × Mem} (hk : kM_rule_j56 σ x1 x2 x3 = some res) (hP : Po (some (vI res.1)) (hp res.2)) : J l D dA H0 YM_rule h0 Po 0 0 (hp σ) 56 [some (vR (some (30, 0))), some (vI x1), some (vI x2), some (vI x3), o4] [] := by
  unfold kM_rule_j56 at hk
  refine j_iconst (pc' := 57) (v := 0) rfl rfl dX9_rule_56 ?_
  exact qM_rule_j57 hk hP
theorem qM_rule_j24 {σ : Mem} {x1 : Int32} {x2 : Int32} {x3 : Int32} {o4 : Option AV} {res : Int32 × Mem} (hk : kM_rule_j24 σ x1 x2 x3 = some res) (hP : Po (some (vI res.1)) (hp res.2)) : J l D dA H0 YM_rule h0 Po 0 0 (hp σ) 24 [some (vR (some (30, 0))), some (vI x1), some (vI x2), some (vI x3), o4] [] := by
  unfold kM_rule_j24 at hk
  refine j_iconst (pc' := 25) (v := 0) rfl rfl dX9_rule_24 ?_
  refine j_goto (tg := 57) rfl dX9_rule_25 ?_
  exact qM_rule_j57 hk hP
theorem qM_rule {σ : Mem} {x1 : Int32} {x2 : Int32} {x3 : Int32} {o4 : Option AV} {res : Int32 × Mem} (hk : kM_rule σ x1 x2 x3 = some res) (hP : Po (some (vI res.1)) (hp res.2)) : J l D dA H0 YM_rule h0 Po 0 0 (hp σ) 0 [some (vR (some (30, 0))), some (vI x1), some (vI x2), some (vI x3), o4] [] := by
  unfold kM_rule at hk
  refine j_aload_n (pc' := 1) rfl rfl dX9_rule_0 ?_
  refine j_iconst (pc' := 2) (v := 0) rfl rfl dX9_rule_1 ?_
  refine j_pi (pc' := 5) (ty := .int) fg_RX9_1 ttX9 rfl rfl ⟨rfl, rfl⟩ rfl (lt_b rfl) rfl rfl dX9_rule_2 ?_
  refine j_iload_n (pc' := 6) rfl rfl dX9_rule_5 ?_
  refine j_iconst (pc' := 7) (v := 2) rfl rfl dX9_rule_6 ?_
  refine j_ic_ne (pc' := 10) (tg := 28) rfl rfl dX9_rule_7 (fun c15 => ?_) (fun c15 => ?_)
  · have hk := (if_neg c15).symm.trans hk
    refine j_iload_n (pc' := 29) rfl rfl dX9_rule_28 ?_
    refine j_iconst (pc' := 30) (v := 1) rfl rfl dX9_rule_29 ?_
    refine j_ic_lt (pc' := 33) (tg := 56) rfl rfl dX9_rule_30 (fun c12 => ?_) (fun c12 => ?_)
    · have hk := (if_pos c12).symm.trans hk
      exact qM_rule_j56 hk hP
    · have hk := (if_neg c12).symm.trans hk
      refine j_iload_n (pc' := 34) rfl rfl dX9_rule_33 ?_
      refine j_bipush (pc' := 36) (v := 60) rfl rfl dX9_rule_34 ?_
      refine j_ic_gt (pc' := 39) (tg := 56) rfl rfl dX9_rule_36 (fun c11 => ?_) (fun c11 => ?_)
      · have hk := (if_pos c11).symm.trans hk
        exact qM_rule_j56 hk hP
      · have hk := (if_neg c11).symm.trans hk
        refine j_iload_n (pc' := 40) rfl rfl dX9_rule_39 ?_
        refine j_bipush (pc' := 42) (v := (-100)) rfl rfl dX9_rule_40 ?_
        refine j_ic_lt (pc' := 45) (tg := 56) rfl rfl dX9_rule_42 (fun c10 => ?_) (fun c10 => ?_)
        · have hk := (if_pos c10).symm.trans hk
          exact qM_rule_j56 hk hP
        · have hk := (if_neg c10).symm.trans hk
          refine j_iload_n (pc' := 46) rfl rfl dX9_rule_45 ?_
          refine j_sipush (pc' := 49) (v := 300) rfl rfl dX9_rule_46 ?_
          refine j_ic_gt (pc' := 52) (tg := 56) rfl rfl dX9_rule_49 (fun c9 => ?_) (fun c9 => ?_)
          · have hk := (if_pos c9).symm.trans hk
            exact qM_rule_j56 hk hP
          · have hk := (if_neg c9).symm.trans hk
            refine j_iconst (pc' := 53) (v := 1) rfl rfl dX9_rule_52 ?_
            refine j_goto (tg := 57) rfl dX9_rule_53 ?_
            exact qM_rule_j57 hk hP
  · have hk := (if_pos c15).symm.trans hk
    refine j_iload_n (pc' := 11) rfl rfl dX9_rule_10 ?_
    refine j_if_lt (pc' := 14) (tg := 24) rfl rfl dX9_rule_11 (fun c14 => ?_) (fun c14 => ?_)
    · have hk := (if_pos c14).symm.trans hk
      exact qM_rule_j24 hk hP
    · have hk := (if_neg c14).symm.trans hk
      refine j_iload_n (pc' := 15) rfl rfl dX9_rule_14 ?_
      refine j_bipush (pc' := 17) (v := 58) rfl rfl dX9_rule_15 ?_
      refine j_ic_gt (pc' := 20) (tg := 24) rfl rfl dX9_rule_17 (fun c13 => ?_) (fun c13 => ?_)
      · have hk := (if_pos c13).symm.trans hk
        exact qM_rule_j24 hk hP
      · have hk := (if_neg c13).symm.trans hk
        refine j_iconst (pc' := 21) (v := 1) rfl rfl dX9_rule_20 ?_
        refine j_goto (tg := 57) rfl dX9_rule_21 ?_
        exact qM_rule_j57 hk hP
theorem LM_rule {σ σ' : Mem} {x1 : Int32} {x2 : Int32} {x3 : Int32} {r : Int32} (hk : kM_rule σ x1 x2 x3 = some (r, σ')) : M l D dA H0 yX9_rule YM_rule [vR (some (30, 0)), vI x1, vI x2, vI x3] (hp σ) (fun x h' => x = some (vI r) ∧ h' = hp σ') :=
  m_of (j := 1) (by decide) rfl (fun hh => by cases hh) ⟨fun _ _ => trivial, rfl⟩ (le_b rfl) (qM_rule hk ⟨rfl, rfl⟩)
theorem qM_drop {σ : Mem} {x1 : Int32} {res : Int32 × Mem} (hk : kM_drop σ x1 = some res) (hP : Po (some (vI res.1)) (hp res.2)) : J l D dA H0 YM_drop h0 Po 0 0 (hp σ) 0 [some (vR (some (30, 0))), some (vI x1)] [] := by
  unfold kM_drop at hk
  refine j_aload_n (pc' := 1) rfl rfl dX9_drop_0 ?_
  refine j_iconst (pc' := 2) (v := 0) rfl rfl dX9_drop_1 ?_
  refine j_pi (pc' := 5) (ty := .int) fg_RX9_1 ttX9 rfl rfl ⟨rfl, rfl⟩ rfl (lt_b rfl) rfl rfl dX9_drop_2 ?_
  refine j_iload_n (pc' := 6) rfl rfl dX9_drop_5 ?_
  refine j_if_lt (pc' := 9) (tg := 26) rfl rfl dX9_drop_6 (fun c5 => ?_) (fun c5 => ?_)
  · have hk := (if_pos c5).symm.trans hk
    refine j_iconst (pc' := 27) (v := 0) rfl rfl dX9_drop_26 ?_
    obtain rfl := Option.some.inj hk
    exact j_zret rfl rfl ⟨rfl, rfl⟩ dX9_drop_27 hP
  · have hk := (if_neg c5).symm.trans hk
    refine j_iload_n (pc' := 10) rfl rfl dX9_drop_9 ?_
    refine j_aload_n (pc' := 11) rfl rfl dX9_drop_10 ?_
    refine j_getf (pc' := 14) fg_RX9_166 (hp_e rfl) rfl rfl dX9_drop_11 ?_
    refine j_ic_ge (pc' := 17) (tg := 26) rfl rfl dX9_drop_14 (fun c4 => ?_) (fun c4 => ?_)
    · have hk := (if_pos c4).symm.trans hk
      refine j_iconst (pc' := 27) (v := 0) rfl rfl dX9_drop_26 ?_
      obtain rfl := Option.some.inj hk
      exact j_zret rfl rfl ⟨rfl, rfl⟩ dX9_drop_27 hP
    · have hk := (if_neg c4).symm.trans hk
      refine j_aload_n (pc' := 18) rfl rfl dX9_drop_17 ?_
      refine j_getf (pc' := 21) fg_RX9_94 (hp_e rfl) rfl rfl dX9_drop_18 ?_
      refine j_iload_n (pc' := 22) rfl rfl dX9_drop_21 ?_
      obtain ⟨g1, hk⟩ := of_ite hk
      refine j_bald (pc' := 23) (hp_e rfl) (inR_in g1) rfl dX9_drop_22 ?_
      refine j_if_ne (pc' := 26) (tg := 28) rfl rfl dX9_drop_23 (fun c3 => ?_) (fun c3 => ?_)
      · have hk := (if_neg c3).symm.trans hk
        refine j_aload_n (pc' := 29) rfl rfl dX9_drop_28 ?_
        refine j_getf (pc' := 32) fg_RX9_94 (hp_e rfl) rfl rfl dX9_drop_29 ?_
        refine j_iload_n (pc' := 33) rfl rfl dX9_drop_32 ?_
        refine j_iconst (pc' := 34) (v := 0) rfl rfl dX9_drop_33 ?_
        obtain ⟨g2, hk⟩ := of_ite hk
        refine j_sz (pc' := 35) (fun _ _ _ => rfl) (inR_in g2) rfl dX9_drop_34 ?_
        refine j_iconst (pc' := 36) (v := 1) rfl rfl dX9_drop_35 ?_
        obtain rfl := Option.some.inj hk
        exact j_zret rfl rfl ⟨rfl, rfl⟩ dX9_drop_36 hP
      · have hk := (if_pos c3).symm.trans hk
        refine j_iconst (pc' := 27) (v := 0) rfl rfl dX9_drop_26 ?_
        obtain rfl := Option.some.inj hk
        exact j_zret rfl rfl ⟨rfl, rfl⟩ dX9_drop_27 hP
theorem LM_drop {σ σ' : Mem} {x1 : Int32} {r : Int32} (hk : kM_drop σ x1 = some (r, σ')) : M l D dA H0 yX9_drop YM_drop [vR (some (30, 0)), vI x1] (hp σ) (fun x h' => x = some (vI r) ∧ h' = hp σ') :=
  m_of (j := 0) (by decide) rfl (fun hh => by cases hh) ⟨fun _ _ => trivial, rfl⟩ (le_b rfl) (qM_drop hk ⟨rfl, rfl⟩)
theorem qM_cost {σ : Mem} {x1 : Int32} {x2 : Int32} {x3 : Int32} {res : Int64 × Mem} (hk : kM_cost σ x1 x2 x3 = some res) (hP : Po (some (vL res.1)) (hp res.2)) : J l D dA H0 YM_cost h0 Po 0 0 (hp σ) 0 [some (vR (some (30, 0))), some (vI x1), some (vI x2), some (vI x3)] [] := by
  unfold kM_cost at hk
  refine j_aload_n (pc' := 1) rfl rfl dX9_cost_0 ?_
  refine j_iconst (pc' := 2) (v := 0) rfl rfl dX9_cost_1 ?_
  refine j_pi (pc' := 5) (ty := .int) fg_RX9_1 ttX9 rfl rfl ⟨rfl, rfl⟩ rfl (lt_b rfl) rfl rfl dX9_cost_2 ?_
  refine j_aload_n (pc' := 6) rfl rfl dX9_cost_5 ?_
  refine j_iload_n (pc' := 7) rfl rfl dX9_cost_6 ?_
  refine j_iload_n (pc' := 8) rfl rfl dX9_cost_7 ?_
  refine j_iload_n (pc' := 9) rfl rfl dX9_cost_8 ?_
  obtain ⟨⟨r1, σ2⟩, hx, hk⟩ := of_bind hk
  refine j_cv1 (pc' := 12) (LM_isWish hx) cv_RX9_175 ⟨le_b rfl, le_b rfl⟩ (hp_e rfl) rfl rfl (le_b rfl) ⟨rfl, rfl⟩ ⟨le_b rfl, le_b rfl⟩ rfl rfl dX9_cost_9 ?_
  refine j_if_eq (pc' := 15) (tg := 25) rfl rfl dX9_cost_12 (fun c5 => ?_) (fun c5 => ?_)
  · have hk := (if_pos c5).symm.trans hk
    refine j_ldc2 (pc' := 28) (v := (-1)) (gd_of (i := 1027) (by decide +kernel) rfl) rfl dX9_cost_25 ?_
    obtain rfl := Option.some.inj hk
    exact j_lret rfl ⟨rfl, rfl⟩ dX9_cost_28 hP
  · have hk := (if_neg c5).symm.trans hk
    refine j_aload_n (pc' := 16) rfl rfl dX9_cost_15 ?_
    refine j_iload_n (pc' := 17) rfl rfl dX9_cost_16 ?_
    refine j_iload_n (pc' := 18) rfl rfl dX9_cost_17 ?_
    refine j_iload_n (pc' := 19) rfl rfl dX9_cost_18 ?_
    obtain ⟨⟨r3, σ4⟩, hx, hk⟩ := of_bind hk
    refine j_cv1 (pc' := 22) (LM_costOf hx) cv_RX9_171 ⟨le_b rfl, le_b rfl⟩ (hp_e rfl) rfl rfl (le_b rfl) ⟨rfl, rfl⟩ ⟨le_b rfl, le_b rfl⟩ rfl rfl dX9_cost_19 ?_
    refine j_goto (tg := 28) rfl dX9_cost_22 ?_
    obtain rfl := Option.some.inj hk
    exact j_lret rfl ⟨rfl, rfl⟩ dX9_cost_28 hP
theorem LM_cost {σ σ' : Mem} {x1 : Int32} {x2 : Int32} {x3 : Int32} {r : Int64} (hk : kM_cost σ x1 x2 x3 = some (r, σ')) : M l D dA H0 yX9_cost YM_cost [vR (some (30, 0)), vI x1, vI x2, vI x3] (hp σ) (fun x h' => x = some (vL r) ∧ h' = hp σ') :=
  m_of (j := 0) (by decide) rfl (fun hh => by cases hh) ⟨fun _ _ => trivial, rfl⟩ (le_b rfl) (qM_cost hk ⟨rfl, rfl⟩)
theorem qM_least {σ : Mem} {x1 : Int32} {x2 : Int32} {x3 : Int32} {x4 : Int32} {res : Int64 × Mem} (hk : kM_least σ x1 x2 x3 x4 = some res) (hP : Po (some (vL res.1)) (hp res.2)) : J l D dA H0 YM_least h0 Po 0 0 (hp σ) 0 [some (vR (some (30, 0))), some (vI x1), some (vI x2), some (vI x3), some (vI x4)] [] := by
  unfold kM_least at hk
  refine j_aload_n (pc' := 1) rfl rfl dX9_least_0 ?_
  refine j_iconst (pc' := 2) (v := 0) rfl rfl dX9_least_1 ?_
  refine j_pi (pc' := 5) (ty := .int) fg_RX9_1 ttX9 rfl rfl ⟨rfl, rfl⟩ rfl (lt_b rfl) rfl rfl dX9_least_2 ?_
  refine j_aload_n (pc' := 6) rfl rfl dX9_least_5 ?_
  refine j_iload_n (pc' := 7) rfl rfl dX9_least_6 ?_
  refine j_iload_n (pc' := 8) rfl rfl dX9_least_7 ?_
  refine j_iload_n (pc' := 9) rfl rfl dX9_least_8 ?_
  obtain ⟨⟨r1, σ2⟩, hx, hk⟩ := of_bind hk
  refine j_cv1 (pc' := 12) (LM_isWish hx) cv_RX9_175 ⟨le_b rfl, le_b rfl⟩ (hp_e rfl) rfl rfl (le_b rfl) ⟨rfl, rfl⟩ ⟨le_b rfl, le_b rfl⟩ rfl rfl dX9_least_9 ?_
  refine j_if_eq (pc' := 15) (tg := 26) rfl rfl dX9_least_12 (fun c12 => ?_) (fun c12 => ?_)
  · have hk := (if_pos c12).symm.trans hk
    refine j_ldc2 (pc' := 29) (v := (-1)) (gd_of (i := 1027) (by decide +kernel) rfl) rfl dX9_least_26 ?_
    obtain rfl := Option.some.inj hk
    exact j_lret rfl ⟨rfl, rfl⟩ dX9_least_29 hP
  · have hk := (if_neg c12).symm.trans hk
    refine j_iload (pc' := 17) rfl rfl dX9_least_15 ?_
    refine j_if_lt (pc' := 20) (tg := 26) rfl rfl dX9_least_17 (fun c11 => ?_) (fun c11 => ?_)
    · have hk := (if_pos c11).symm.trans hk
      refine j_ldc2 (pc' := 29) (v := (-1)) (gd_of (i := 1027) (by decide +kernel) rfl) rfl dX9_least_26 ?_
      obtain rfl := Option.some.inj hk
      exact j_lret rfl ⟨rfl, rfl⟩ dX9_least_29 hP
    · have hk := (if_neg c11).symm.trans hk
      refine j_iload (pc' := 22) rfl rfl dX9_least_20 ?_
      refine j_iconst (pc' := 23) (v := 1) rfl rfl dX9_least_22 ?_
      refine j_ic_le (pc' := 26) (tg := 30) rfl rfl dX9_least_23 (fun c10 => ?_) (fun c10 => ?_)
      · have hk := (if_pos c10).symm.trans hk
        refine j_aload_n (pc' := 31) rfl rfl dX9_least_30 ?_
        refine j_iload_n (pc' := 32) rfl rfl dX9_least_31 ?_
        refine j_iload_n (pc' := 33) rfl rfl dX9_least_32 ?_
        refine j_iload_n (pc' := 34) rfl rfl dX9_least_33 ?_
        obtain ⟨⟨_, σ4⟩, hx, hk⟩ := of_bind hk
        refine j_cv0 (pc' := 37) (LM_ways hx) cv_RX9_182 ⟨le_b rfl, le_b rfl⟩ (hp_e rfl) rfl rfl (le_b rfl) ⟨rfl, rfl⟩ ⟨le_b rfl, le_b rfl⟩ rfl rfl dX9_least_34 ?_
        refine j_aload_n (pc' := 38) rfl rfl dX9_least_37 ?_
        refine j_getf (pc' := 41) fg_RX9_97 (hp_e rfl) rfl rfl dX9_least_38 ?_
        refine j_iload_n (pc' := 42) rfl rfl dX9_least_41 ?_
        obtain ⟨g5, hk⟩ := of_ite hk
        refine j_lald (pc' := 43) (hp_e rfl) (inR_in g5) rfl dX9_least_42 ?_
        refine j_ldc2 (pc' := 46) (v := (-1)) (gd_of (i := 1027) (by decide +kernel) rfl) rfl dX9_least_43 ?_
        refine j_lcmp (pc' := 47) rfl dX9_least_46 ?_
        refine j_if_ne (pc' := 50) (tg := 56) rfl rfl dX9_least_47 (fun c9 => ?_) (fun c9 => ?_)
        · have hk := (if_neg c9).symm.trans hk
          refine j_iload (pc' := 58) rfl rfl dX9_least_56 ?_
          refine j_if_ne (pc' := 61) (tg := 70) rfl rfl dX9_least_58 (fun c8 => ?_) (fun c8 => ?_)
          · have hk := (if_neg c8).symm.trans hk
            refine j_aload_n (pc' := 71) rfl rfl dX9_least_70 ?_
            refine j_getf (pc' := 74) fg_RX9_100 (hp_e rfl) rfl rfl dX9_least_71 ?_
            refine j_iload_n (pc' := 75) rfl rfl dX9_least_74 ?_
            obtain ⟨g6, hk⟩ := of_ite hk
            refine j_iald (pc' := 76) (hp_e rfl) (inR_in g6) rfl dX9_least_75 ?_
            refine j_i2l (pc' := 77) rfl dX9_least_76 ?_
            obtain rfl := Option.some.inj hk
            exact j_lret rfl ⟨rfl, rfl⟩ dX9_least_77 hP
          · have hk := (if_pos c8).symm.trans hk
            refine j_aload_n (pc' := 62) rfl rfl dX9_least_61 ?_
            refine j_getf (pc' := 65) fg_RX9_97 (hp_e rfl) rfl rfl dX9_least_62 ?_
            refine j_iload_n (pc' := 66) rfl rfl dX9_least_65 ?_
            obtain ⟨g7, hk⟩ := of_ite hk
            refine j_lald (pc' := 67) (hp_e rfl) (inR_in g7) rfl dX9_least_66 ?_
            refine j_goto (tg := 77) rfl dX9_least_67 ?_
            obtain rfl := Option.some.inj hk
            exact j_lret rfl ⟨rfl, rfl⟩ dX9_least_77 hP
        · have hk := (if_pos c9).symm.trans hk
          refine j_ldc2 (pc' := 53) (v := (-1)) (gd_of (i := 1027) (by decide +kernel) rfl) rfl dX9_least_50 ?_
          refine j_goto (tg := 77) rfl dX9_least_53 ?_
          obtain rfl := Option.some.inj hk
          exact j_lret rfl ⟨rfl, rfl⟩ dX9_least_77 hP
      · have hk := (if_neg c10).symm.trans hk
        refine j_ldc2 (pc' := 29) (v := (-1)) (gd_of (i := 1027) (by decide +kernel) rfl) rfl dX9_least_26 ?_
        obtain rfl := Option.some.inj hk
        exact j_lret rfl ⟨rfl, rfl⟩ dX9_least_29 hP
theorem LM_least {σ σ' : Mem} {x1 : Int32} {x2 : Int32} {x3 : Int32} {x4 : Int32} {r : Int64} (hk : kM_least σ x1 x2 x3 x4 = some (r, σ')) : M l D dA H0 yX9_least YM_least [vR (some (30, 0)), vI x1, vI x2, vI x3, vI x4] (hp σ) (fun x h' => x = some (vL r) ∧ h' = hp σ') :=
  m_of (j := 0) (by decide) rfl (fun hh => by cases hh) ⟨fun _ _ => trivial, rfl⟩ (le_b rfl) (qM_least hk ⟨rfl, rfl⟩)
theorem qM_count_s63 {σ : Mem} {x2 : Int32} {x3 : Int32} {o1 : Option AV} {out : (Int32 × Int32 × Mem) ⊕ (Int32 × Mem)} (hk : kM_count_s63 (x2, x3, σ) = some out) (hc : ∀ (z2 : Int32) (z3 : Int32) (ς : Mem), out = .inl (z2, z3, ς) → ∀ (o1 : Option AV), J l D dA H0 YM_count h0 Po 0 0 (hp ς) 63 [some (vR (some (30, 0))), o1, some (vI z2), some (vI z3)] []) (hx0 : ∀ (z2 : Int32) (ς : Mem), out = .inr (z2, ς) → ∀ (o0 o1 o3 : Option AV), J l D dA H0 YM_count h0 Po 0 0 (hp ς) 86 [o0, o1, some (vI z2), o3] []) : J l D dA H0 YM_count h0 Po 0 0 (hp σ) 63 [some (vR (some (30, 0))), o1, some (vI x2), some (vI x3)] [] := by
  unfold kM_count_s63 at hk
  refine j_iload_n (pc' := 64) rfl rfl dX9_count_63 ?_
  refine j_bipush (pc' := 66) (v := 16) rfl rfl dX9_count_64 ?_
  refine j_ic_ge (pc' := 69) (tg := 86) rfl rfl dX9_count_66 (fun c4 => ?_) (fun c4 => ?_)
  · have hk := (if_pos c4).symm.trans hk
    obtain rfl := Option.some.inj hk
    exact hx0 _ _ rfl _ _ _
  · have hk := (if_neg c4).symm.trans hk
    refine j_aload_n (pc' := 70) rfl rfl dX9_count_69 ?_
    refine j_iload_n (pc' := 71) rfl rfl dX9_count_70 ?_
    obtain ⟨⟨r1, σ2⟩, hx, hk⟩ := of_bind hk
    refine j_cv1 (pc' := 74) (LM_isRoom hx) cv_RX9_107 ⟨le_b rfl, le_b rfl⟩ (hp_e rfl) rfl rfl (le_b rfl) ⟨rfl, rfl⟩ ⟨le_b rfl, le_b rfl⟩ rfl rfl dX9_count_71 ?_
    refine j_if_eq (pc' := 77) (tg := 80) rfl rfl dX9_count_74 (fun c3 => ?_) (fun c3 => ?_)
    · have hk := (if_pos c3).symm.trans hk
      refine j_iinc (pc' := 83) (v := x3 + 1) rfl rfl (lt_b rfl) rfl rfl dX9_count_80 ?_
      refine j_goto (tg := 63) rfl dX9_count_83 ?_
      obtain rfl := Option.some.inj hk
      exact hc _ _ _ rfl _
    · have hk := (if_neg c3).symm.trans hk
      refine j_iinc (pc' := 80) (v := x2 + 1) rfl rfl (lt_b rfl) rfl rfl dX9_count_77 ?_
      refine j_iinc (pc' := 83) (v := x3 + 1) rfl rfl (lt_b rfl) rfl rfl dX9_count_80 ?_
      refine j_goto (tg := 63) rfl dX9_count_83 ?_
      obtain rfl := Option.some.inj hk
      exact hc _ _ _ rfl _
theorem lM_count_s63 : ∀ (n : Nat) (x2 : Int32) (x3 : Int32) (σ : Mem) (e : (Int32 × Mem)), loopF n (kM_count_s63) (x2, x3, σ) = some e → (∀ (z2 : Int32) (ς : Mem), e = (z2, ς) → ∀ (o0 o1 o3 : Option AV), J l D dA H0 YM_count h0 Po 0 0 (hp ς) 86 [o0, o1, some (vI z2), o3] []) → ∀ (o1 : Option AV), J l D dA H0 YM_count h0 Po 0 0 (hp σ) 63 [some (vR (some (30, 0))), o1, some (vI x2), some (vI x3)] []
  | 0, x2, x3, σ, e, he => by cases he
  | n + 1, x2, x3, σ, e, he => by
    intro hx0 o1
    rcases loopF_succ he with ⟨s', h1, h2⟩ | h1
    · refine qM_count_s63 h1 ?_ ?_
      · intro z2 z3 ς ee
        cases ee
        exact lM_count_s63 n z2 z3 ς e h2 hx0
      · intro z2 ς ee
        cases ee
    · refine qM_count_s63 h1 ?_ ?_
      · intro z2 z3 ς ee
        cases ee
      · intro z2 ς ee
        exact hx0 z2 ς (Sum.inr.inj ee)
theorem qM_count_x86 {σ : Mem} {x2 : Int32} {o0 : Option AV} {o1 : Option AV} {o3 : Option AV} {res : Int32 × Mem} (hk : kM_count_x86 σ x2 = some res) (hP : Po (some (vI res.1)) (hp res.2)) : J l D dA H0 YM_count h0 Po 0 0 (hp σ) 86 [o0, o1, some (vI x2), o3] [] := by
  unfold kM_count_x86 at hk
  refine j_iload_n (pc' := 87) rfl rfl dX9_count_86 ?_
  obtain rfl := Option.some.inj hk
  exact j_iret rfl ⟨rfl, rfl⟩ dX9_count_87 hP
theorem qM_count_s90 {σ : Mem} {x2 : Int32} {x3 : Int32} {o1 : Option AV} {out : (Int32 × Int32 × Mem) ⊕ (Int32 × Mem)} (hk : kM_count_s90 (x2, x3, σ) = some out) (hc : ∀ (z2 : Int32) (z3 : Int32) (ς : Mem), out = .inl (z2, z3, ς) → ∀ (o1 : Option AV), J l D dA H0 YM_count h0 Po 0 0 (hp ς) 90 [some (vR (some (30, 0))), o1, some (vI z2), some (vI z3)] []) (hx0 : ∀ (z2 : Int32) (ς : Mem), out = .inr (z2, ς) → ∀ (o0 o1 o3 : Option AV), J l D dA H0 YM_count h0 Po 0 0 (hp ς) 115 [o0, o1, some (vI z2), o3] []) : J l D dA H0 YM_count h0 Po 0 0 (hp σ) 90 [some (vR (some (30, 0))), o1, some (vI x2), some (vI x3)] [] := by
  unfold kM_count_s90 at hk
  refine j_iload_n (pc' := 91) rfl rfl dX9_count_90 ?_
  refine j_bipush (pc' := 93) (v := 16) rfl rfl dX9_count_91 ?_
  refine j_ic_ge (pc' := 96) (tg := 115) rfl rfl dX9_count_93 (fun c7 => ?_) (fun c7 => ?_)
  · have hk := (if_pos c7).symm.trans hk
    obtain rfl := Option.some.inj hk
    exact hx0 _ _ rfl _ _ _
  · have hk := (if_neg c7).symm.trans hk
    refine j_aload_n (pc' := 97) rfl rfl dX9_count_96 ?_
    refine j_getf (pc' := 100) fg_RX9_13 (hp_e rfl) rfl rfl dX9_count_97 ?_
    refine j_iload_n (pc' := 101) rfl rfl dX9_count_100 ?_
    obtain ⟨g5, hk⟩ := of_ite hk
    refine j_iald (pc' := 102) (hp_e rfl) (inR_in g5) rfl dX9_count_101 ?_
    refine j_iconst (pc' := 103) (v := 4) rfl rfl dX9_count_102 ?_
    refine j_ic_ne (pc' := 106) (tg := 109) rfl rfl dX9_count_103 (fun c6 => ?_) (fun c6 => ?_)
    · have hk := (if_neg c6).symm.trans hk
      refine j_iinc (pc' := 112) (v := x3 + 1) rfl rfl (lt_b rfl) rfl rfl dX9_count_109 ?_
      refine j_goto (tg := 90) rfl dX9_count_112 ?_
      obtain rfl := Option.some.inj hk
      exact hc _ _ _ rfl _
    · have hk := (if_pos c6).symm.trans hk
      refine j_iinc (pc' := 109) (v := x2 + 1) rfl rfl (lt_b rfl) rfl rfl dX9_count_106 ?_
      refine j_iinc (pc' := 112) (v := x3 + 1) rfl rfl (lt_b rfl) rfl rfl dX9_count_109 ?_
      refine j_goto (tg := 90) rfl dX9_count_112 ?_
      obtain rfl := Option.some.inj hk
      exact hc _ _ _ rfl _
theorem lM_count_s90 : ∀ (n : Nat) (x2 : Int32) (x3 : Int32) (σ : Mem) (e : (Int32 × Mem)), loopF n (kM_count_s90) (x2, x3, σ) = some e → (∀ (z2 : Int32) (ς : Mem), e = (z2, ς) → ∀ (o0 o1 o3 : Option AV), J l D dA H0 YM_count h0 Po 0 0 (hp ς) 115 [o0, o1, some (vI z2), o3] []) → ∀ (o1 : Option AV), J l D dA H0 YM_count h0 Po 0 0 (hp σ) 90 [some (vR (some (30, 0))), o1, some (vI x2), some (vI x3)] []
  | 0, x2, x3, σ, e, he => by cases he
  | n + 1, x2, x3, σ, e, he => by
    intro hx0 o1
    rcases loopF_succ he with ⟨s', h1, h2⟩ | h1
    · refine qM_count_s90 h1 ?_ ?_
      · intro z2 z3 ς ee
        cases ee
        exact lM_count_s90 n z2 z3 ς e h2 hx0
      · intro z2 ς ee
        cases ee
    · refine qM_count_s90 h1 ?_ ?_
      · intro z2 z3 ς ee
        cases ee
      · intro z2 ς ee
        exact hx0 z2 ς (Sum.inr.inj ee)
theorem qM_count_x115 {σ : Mem} {x2 : Int32} {o0 : Option AV} {o1 : Option AV} {o3 : Option AV} {res : Int32 × Mem} (hk : kM_count_x115 σ x2 = some res) (hP : Po (some (vI res.1)) (hp res.2)) : J l D dA H0 YM_count h0 Po 0 0 (hp σ) 115 [o0, o1, some (vI x2), o3] [] := by
  unfold kM_count_x115 at hk
  refine j_iload_n (pc' := 116) rfl rfl dX9_count_115 ?_
  obtain rfl := Option.some.inj hk
  exact j_iret rfl ⟨rfl, rfl⟩ dX9_count_116 hP
theorem qM_count_s119 {σ : Mem} {x2 : Int32} {x3 : Int32} {o1 : Option AV} {out : (Int32 × Int32 × Mem) ⊕ (Int32 × Mem)} (hk : kM_count_s119 (x2, x3, σ) = some out) (hc : ∀ (z2 : Int32) (z3 : Int32) (ς : Mem), out = .inl (z2, z3, ς) → ∀ (o1 : Option AV), J l D dA H0 YM_count h0 Po 0 0 (hp ς) 119 [some (vR (some (30, 0))), o1, some (vI z2), some (vI z3)] []) (hx0 : ∀ (z2 : Int32) (ς : Mem), out = .inr (z2, ς) → ∀ (o0 o1 o3 : Option AV), J l D dA H0 YM_count h0 Po 0 0 (hp ς) 144 [o0, o1, some (vI z2), o3] []) : J l D dA H0 YM_count h0 Po 0 0 (hp σ) 119 [some (vR (some (30, 0))), o1, some (vI x2), some (vI x3)] [] := by
  unfold kM_count_s119 at hk
  refine j_iload_n (pc' := 120) rfl rfl dX9_count_119 ?_
  refine j_bipush (pc' := 122) (v := 16) rfl rfl dX9_count_120 ?_
  refine j_ic_ge (pc' := 125) (tg := 144) rfl rfl dX9_count_122 (fun c10 => ?_) (fun c10 => ?_)
  · have hk := (if_pos c10).symm.trans hk
    obtain rfl := Option.some.inj hk
    exact hx0 _ _ rfl _ _ _
  · have hk := (if_neg c10).symm.trans hk
    refine j_aload_n (pc' := 126) rfl rfl dX9_count_125 ?_
    refine j_getf (pc' := 129) fg_RX9_23 (hp_e rfl) rfl rfl dX9_count_126 ?_
    refine j_iload_n (pc' := 130) rfl rfl dX9_count_129 ?_
    obtain ⟨g8, hk⟩ := of_ite hk
    refine j_iald (pc' := 131) (hp_e rfl) (inR_in g8) rfl dX9_count_130 ?_
    refine j_iload_n (pc' := 132) rfl rfl dX9_count_131 ?_
    refine j_ic_le (pc' := 135) (tg := 138) rfl rfl dX9_count_132 (fun c9 => ?_) (fun c9 => ?_)
    · have hk := (if_pos c9).symm.trans hk
      refine j_iinc (pc' := 141) (v := x3 + 1) rfl rfl (lt_b rfl) rfl rfl dX9_count_138 ?_
      refine j_goto (tg := 119) rfl dX9_count_141 ?_
      obtain rfl := Option.some.inj hk
      exact hc _ _ _ rfl _
    · have hk := (if_neg c9).symm.trans hk
      refine j_iinc (pc' := 138) (v := x2 + 1) rfl rfl (lt_b rfl) rfl rfl dX9_count_135 ?_
      refine j_iinc (pc' := 141) (v := x3 + 1) rfl rfl (lt_b rfl) rfl rfl dX9_count_138 ?_
      refine j_goto (tg := 119) rfl dX9_count_141 ?_
      obtain rfl := Option.some.inj hk
      exact hc _ _ _ rfl _
theorem lM_count_s119 : ∀ (n : Nat) (x2 : Int32) (x3 : Int32) (σ : Mem) (e : (Int32 × Mem)), loopF n (kM_count_s119) (x2, x3, σ) = some e → (∀ (z2 : Int32) (ς : Mem), e = (z2, ς) → ∀ (o0 o1 o3 : Option AV), J l D dA H0 YM_count h0 Po 0 0 (hp ς) 144 [o0, o1, some (vI z2), o3] []) → ∀ (o1 : Option AV), J l D dA H0 YM_count h0 Po 0 0 (hp σ) 119 [some (vR (some (30, 0))), o1, some (vI x2), some (vI x3)] []
  | 0, x2, x3, σ, e, he => by cases he
  | n + 1, x2, x3, σ, e, he => by
    intro hx0 o1
    rcases loopF_succ he with ⟨s', h1, h2⟩ | h1
    · refine qM_count_s119 h1 ?_ ?_
      · intro z2 z3 ς ee
        cases ee
        exact lM_count_s119 n z2 z3 ς e h2 hx0
      · intro z2 ς ee
        cases ee
    · refine qM_count_s119 h1 ?_ ?_
      · intro z2 z3 ς ee
        cases ee
      · intro z2 ς ee
        exact hx0 z2 ς (Sum.inr.inj ee)
theorem qM_count_x144 {σ : Mem} {x2 : Int32} {o0 : Option AV} {o1 : Option AV} {o3 : Option AV} {res : Int32 × Mem} (hk : kM_count_x144 σ x2 = some res) (hP : Po (some (vI res.1)) (hp res.2)) : J l D dA H0 YM_count h0 Po 0 0 (hp σ) 144 [o0, o1, some (vI x2), o3] [] := by
  unfold kM_count_x144 at hk
  refine j_iload_n (pc' := 145) rfl rfl dX9_count_144 ?_
  obtain rfl := Option.some.inj hk
  exact j_iret rfl ⟨rfl, rfl⟩ dX9_count_145 hP
theorem qM_count_s153 {σ : Mem} {x2 : Int32} {x3 : Int32} {o1 : Option AV} {out : (Int32 × Int32 × Mem) ⊕ (Int32 × Mem)} (hk : kM_count_s153 (x2, x3, σ) = some out) (hc : ∀ (z2 : Int32) (z3 : Int32) (ς : Mem), out = .inl (z2, z3, ς) → ∀ (o1 : Option AV), J l D dA H0 YM_count h0 Po 0 0 (hp ς) 153 [some (vR (some (30, 0))), o1, some (vI z2), some (vI z3)] []) (hx0 : ∀ (z2 : Int32) (ς : Mem), out = .inr (z2, ς) → ∀ (o0 o1 o3 : Option AV), J l D dA H0 YM_count h0 Po 0 0 (hp ς) 178 [o0, o1, some (vI z2), o3] []) : J l D dA H0 YM_count h0 Po 0 0 (hp σ) 153 [some (vR (some (30, 0))), o1, some (vI x2), some (vI x3)] [] := by
  unfold kM_count_s153 at hk
  refine j_iload_n (pc' := 154) rfl rfl dX9_count_153 ?_
  refine j_aload_n (pc' := 155) rfl rfl dX9_count_154 ?_
  refine j_getf (pc' := 158) fg_RX9_117 (hp_e rfl) rfl rfl dX9_count_155 ?_
  refine j_ic_ge (pc' := 161) (tg := 178) rfl rfl dX9_count_158 (fun c14 => ?_) (fun c14 => ?_)
  · have hk := (if_pos c14).symm.trans hk
    obtain rfl := Option.some.inj hk
    exact hx0 _ _ rfl _ _ _
  · have hk := (if_neg c14).symm.trans hk
    refine j_aload_n (pc' := 162) rfl rfl dX9_count_161 ?_
    refine j_iload_n (pc' := 163) rfl rfl dX9_count_162 ?_
    obtain ⟨⟨r11, σ12⟩, hx, hk⟩ := of_bind hk
    refine j_cv1 (pc' := 166) (LM_stands hx) cv_RX9_120 ⟨le_b rfl, le_b rfl⟩ (hp_e rfl) rfl rfl (le_b rfl) ⟨rfl, rfl⟩ ⟨le_b rfl, le_b rfl⟩ rfl rfl dX9_count_163 ?_
    refine j_if_eq (pc' := 169) (tg := 172) rfl rfl dX9_count_166 (fun c13 => ?_) (fun c13 => ?_)
    · have hk := (if_pos c13).symm.trans hk
      refine j_iinc (pc' := 175) (v := x3 + 1) rfl rfl (lt_b rfl) rfl rfl dX9_count_172 ?_
      refine j_goto (tg := 153) rfl dX9_count_175 ?_
      obtain rfl := Option.some.inj hk
      exact hc _ _ _ rfl _
    · have hk := (if_neg c13).symm.trans hk
      refine j_iinc (pc' := 172) (v := x2 + 1) rfl rfl (lt_b rfl) rfl rfl dX9_count_169 ?_
      refine j_iinc (pc' := 175) (v := x3 + 1) rfl rfl (lt_b rfl) rfl rfl dX9_count_172 ?_
      refine j_goto (tg := 153) rfl dX9_count_175 ?_
      obtain rfl := Option.some.inj hk
      exact hc _ _ _ rfl _
theorem lM_count_s153 : ∀ (n : Nat) (x2 : Int32) (x3 : Int32) (σ : Mem) (e : (Int32 × Mem)), loopF n (kM_count_s153) (x2, x3, σ) = some e → (∀ (z2 : Int32) (ς : Mem), e = (z2, ς) → ∀ (o0 o1 o3 : Option AV), J l D dA H0 YM_count h0 Po 0 0 (hp ς) 178 [o0, o1, some (vI z2), o3] []) → ∀ (o1 : Option AV), J l D dA H0 YM_count h0 Po 0 0 (hp σ) 153 [some (vR (some (30, 0))), o1, some (vI x2), some (vI x3)] []
  | 0, x2, x3, σ, e, he => by cases he
  | n + 1, x2, x3, σ, e, he => by
    intro hx0 o1
    rcases loopF_succ he with ⟨s', h1, h2⟩ | h1
    · refine qM_count_s153 h1 ?_ ?_
      · intro z2 z3 ς ee
        cases ee
        exact lM_count_s153 n z2 z3 ς e h2 hx0
      · intro z2 ς ee
        cases ee
    · refine qM_count_s153 h1 ?_ ?_
      · intro z2 z3 ς ee
        cases ee
      · intro z2 ς ee
        exact hx0 z2 ς (Sum.inr.inj ee)
theorem qM_count_x178 {σ : Mem} {x2 : Int32} {o0 : Option AV} {o1 : Option AV} {o3 : Option AV} {res : Int32 × Mem} (hk : kM_count_x178 σ x2 = some res) (hP : Po (some (vI res.1)) (hp res.2)) : J l D dA H0 YM_count h0 Po 0 0 (hp σ) 178 [o0, o1, some (vI x2), o3] [] := by
  unfold kM_count_x178 at hk
  refine j_iload_n (pc' := 179) rfl rfl dX9_count_178 ?_
  obtain rfl := Option.some.inj hk
  exact j_iret rfl ⟨rfl, rfl⟩ dX9_count_179 hP
theorem qM_count_s187 {σ : Mem} {x2 : Int32} {x3 : Int32} {o1 : Option AV} {out : (Int32 × Int32 × Mem) ⊕ (Int32 × Mem)} (hk : kM_count_s187 (x2, x3, σ) = some out) (hc : ∀ (z2 : Int32) (z3 : Int32) (ς : Mem), out = .inl (z2, z3, ς) → ∀ (o1 : Option AV), J l D dA H0 YM_count h0 Po 0 0 (hp ς) 187 [some (vR (some (30, 0))), o1, some (vI z2), some (vI z3)] []) (hx0 : ∀ (z2 : Int32) (ς : Mem), out = .inr (z2, ς) → ∀ (o0 o1 o3 : Option AV), J l D dA H0 YM_count h0 Po 0 0 (hp ς) 213 [o0, o1, some (vI z2), o3] []) : J l D dA H0 YM_count h0 Po 0 0 (hp σ) 187 [some (vR (some (30, 0))), o1, some (vI x2), some (vI x3)] [] := by
  unfold kM_count_s187 at hk
  refine j_iload_n (pc' := 188) rfl rfl dX9_count_187 ?_
  refine j_aload_n (pc' := 189) rfl rfl dX9_count_188 ?_
  refine j_getf (pc' := 192) fg_RX9_166 (hp_e rfl) rfl rfl dX9_count_189 ?_
  refine j_ic_ge (pc' := 195) (tg := 213) rfl rfl dX9_count_192 (fun c17 => ?_) (fun c17 => ?_)
  · have hk := (if_pos c17).symm.trans hk
    obtain rfl := Option.some.inj hk
    exact hx0 _ _ rfl _ _ _
  · have hk := (if_neg c17).symm.trans hk
    refine j_aload_n (pc' := 196) rfl rfl dX9_count_195 ?_
    refine j_getf (pc' := 199) fg_RX9_94 (hp_e rfl) rfl rfl dX9_count_196 ?_
    refine j_iload_n (pc' := 200) rfl rfl dX9_count_199 ?_
    obtain ⟨g15, hk⟩ := of_ite hk
    refine j_bald (pc' := 201) (hp_e rfl) (inR_in g15) rfl dX9_count_200 ?_
    refine j_if_eq (pc' := 204) (tg := 207) rfl rfl dX9_count_201 (fun c16 => ?_) (fun c16 => ?_)
    · have hk := (if_pos c16).symm.trans hk
      refine j_iinc (pc' := 210) (v := x3 + 1) rfl rfl (lt_b rfl) rfl rfl dX9_count_207 ?_
      refine j_goto (tg := 187) rfl dX9_count_210 ?_
      obtain rfl := Option.some.inj hk
      exact hc _ _ _ rfl _
    · have hk := (if_neg c16).symm.trans hk
      refine j_iinc (pc' := 207) (v := x2 + 1) rfl rfl (lt_b rfl) rfl rfl dX9_count_204 ?_
      refine j_iinc (pc' := 210) (v := x3 + 1) rfl rfl (lt_b rfl) rfl rfl dX9_count_207 ?_
      refine j_goto (tg := 187) rfl dX9_count_210 ?_
      obtain rfl := Option.some.inj hk
      exact hc _ _ _ rfl _
theorem lM_count_s187 : ∀ (n : Nat) (x2 : Int32) (x3 : Int32) (σ : Mem) (e : (Int32 × Mem)), loopF n (kM_count_s187) (x2, x3, σ) = some e → (∀ (z2 : Int32) (ς : Mem), e = (z2, ς) → ∀ (o0 o1 o3 : Option AV), J l D dA H0 YM_count h0 Po 0 0 (hp ς) 213 [o0, o1, some (vI z2), o3] []) → ∀ (o1 : Option AV), J l D dA H0 YM_count h0 Po 0 0 (hp σ) 187 [some (vR (some (30, 0))), o1, some (vI x2), some (vI x3)] []
  | 0, x2, x3, σ, e, he => by cases he
  | n + 1, x2, x3, σ, e, he => by
    intro hx0 o1
    rcases loopF_succ he with ⟨s', h1, h2⟩ | h1
    · refine qM_count_s187 h1 ?_ ?_
      · intro z2 z3 ς ee
        cases ee
        exact lM_count_s187 n z2 z3 ς e h2 hx0
      · intro z2 ς ee
        cases ee
    · refine qM_count_s187 h1 ?_ ?_
      · intro z2 z3 ς ee
        cases ee
      · intro z2 ς ee
        exact hx0 z2 ς (Sum.inr.inj ee)
theorem qM_count_x213 {σ : Mem} {x2 : Int32} {o0 : Option AV} {o1 : Option AV} {o3 : Option AV} {res : Int32 × Mem} (hk : kM_count_x213 σ x2 = some res) (hP : Po (some (vI res.1)) (hp res.2)) : J l D dA H0 YM_count h0 Po 0 0 (hp σ) 213 [o0, o1, some (vI x2), o3] [] := by
  unfold kM_count_x213 at hk
  refine j_iload_n (pc' := 214) rfl rfl dX9_count_213 ?_
  obtain rfl := Option.some.inj hk
  exact j_iret rfl ⟨rfl, rfl⟩ dX9_count_214 hP
theorem qM_count {σ : Mem} {x1 : Int32} {o2 : Option AV} {o3 : Option AV} {res : Int32 × Mem} (hk : kM_count σ x1 = some res) (hP : Po (some (vI res.1)) (hp res.2)) : J l D dA H0 YM_count h0 Po 0 0 (hp σ) 0 [some (vR (some (30, 0))), some (vI x1), o2, o3] [] := by
  unfold kM_count at hk
  refine j_aload_n (pc' := 1) rfl rfl dX9_count_0 ?_
  refine j_iconst (pc' := 2) (v := 0) rfl rfl dX9_count_1 ?_
  refine j_pi (pc' := 5) (ty := .int) fg_RX9_1 ttX9 rfl rfl ⟨rfl, rfl⟩ rfl (lt_b rfl) rfl rfl dX9_count_2 ?_
  refine j_iconst (pc' := 6) (v := 0) rfl rfl dX9_count_5 ?_
  refine j_istore_n (pc' := 7) (lt_b rfl) rfl rfl dX9_count_6 ?_
  refine j_iload_n (pc' := 8) rfl rfl dX9_count_7 ?_
  by_cases cw0 : x1 = 0
  · have hk := (if_pos cw0).symm.trans hk
    refine j_tin (off := 48) (tg := 56) cw0 (by decide) dX9_count_8 ?_
    refine j_aload_n (pc' := 57) rfl rfl dX9_count_56 ?_
    refine j_getf (pc' := 60) fg_RX9_158 (hp_e rfl) rfl rfl dX9_count_57 ?_
    obtain rfl := Option.some.inj hk
    exact j_iret rfl ⟨rfl, rfl⟩ dX9_count_60 hP
  have hk := (if_neg cw0).symm.trans hk
  by_cases cw1 : x1 = 1
  · have hk := (if_pos cw1).symm.trans hk
    refine j_tin (off := 53) (tg := 61) cw1 (by decide) dX9_count_8 ?_
    refine j_iconst (pc' := 62) (v := 0) rfl rfl dX9_count_61 ?_
    refine j_istore_n (pc' := 63) (lt_b rfl) rfl rfl dX9_count_62 ?_
    obtain ⟨e, he, hk⟩ := of_bind hk
    refine lM_count_s63 FU _ _ _ e he ?_ _
    · intro z2 ς ee _ _ _
      subst ee
      exact qM_count_x86 hk hP
  have hk := (if_neg cw1).symm.trans hk
  by_cases cw2 : x1 = 2
  · have hk := (if_pos cw2).symm.trans hk
    refine j_tin (off := 80) (tg := 88) cw2 (by decide) dX9_count_8 ?_
    refine j_iconst (pc' := 89) (v := 0) rfl rfl dX9_count_88 ?_
    refine j_istore_n (pc' := 90) (lt_b rfl) rfl rfl dX9_count_89 ?_
    obtain ⟨e, he, hk⟩ := of_bind hk
    refine lM_count_s90 FU _ _ _ e he ?_ _
    · intro z2 ς ee _ _ _
      subst ee
      exact qM_count_x115 hk hP
  have hk := (if_neg cw2).symm.trans hk
  by_cases cw3 : x1 = 3
  · have hk := (if_pos cw3).symm.trans hk
    refine j_tin (off := 109) (tg := 117) cw3 (by decide) dX9_count_8 ?_
    refine j_iconst (pc' := 118) (v := 0) rfl rfl dX9_count_117 ?_
    refine j_istore_n (pc' := 119) (lt_b rfl) rfl rfl dX9_count_118 ?_
    obtain ⟨e, he, hk⟩ := of_bind hk
    refine lM_count_s119 FU _ _ _ e he ?_ _
    · intro z2 ς ee _ _ _
      subst ee
      exact qM_count_x144 hk hP
  have hk := (if_neg cw3).symm.trans hk
  by_cases cw4 : x1 = 4
  · have hk := (if_pos cw4).symm.trans hk
    refine j_tin (off := 138) (tg := 146) cw4 (by decide) dX9_count_8 ?_
    refine j_aload_n (pc' := 147) rfl rfl dX9_count_146 ?_
    refine j_getf (pc' := 150) fg_RX9_117 (hp_e rfl) rfl rfl dX9_count_147 ?_
    obtain rfl := Option.some.inj hk
    exact j_iret rfl ⟨rfl, rfl⟩ dX9_count_150 hP
  have hk := (if_neg cw4).symm.trans hk
  by_cases cw5 : x1 = 5
  · have hk := (if_pos cw5).symm.trans hk
    refine j_tin (off := 143) (tg := 151) cw5 (by decide) dX9_count_8 ?_
    refine j_iconst (pc' := 152) (v := 0) rfl rfl dX9_count_151 ?_
    refine j_istore_n (pc' := 153) (lt_b rfl) rfl rfl dX9_count_152 ?_
    obtain ⟨e, he, hk⟩ := of_bind hk
    refine lM_count_s153 FU _ _ _ e he ?_ _
    · intro z2 ς ee _ _ _
      subst ee
      exact qM_count_x178 hk hP
  have hk := (if_neg cw5).symm.trans hk
  by_cases cw6 : x1 = 6
  · have hk := (if_pos cw6).symm.trans hk
    refine j_tin (off := 172) (tg := 180) cw6 (by decide) dX9_count_8 ?_
    refine j_aload_n (pc' := 181) rfl rfl dX9_count_180 ?_
    refine j_getf (pc' := 184) fg_RX9_190 (hp_e rfl) rfl rfl dX9_count_181 ?_
    obtain rfl := Option.some.inj hk
    exact j_iret rfl ⟨rfl, rfl⟩ dX9_count_184 hP
  have hk := (if_neg cw6).symm.trans hk
  by_cases cw7 : x1 = 7
  · have hk := (if_pos cw7).symm.trans hk
    refine j_tin (off := 177) (tg := 185) cw7 (by decide) dX9_count_8 ?_
    refine j_iconst (pc' := 186) (v := 0) rfl rfl dX9_count_185 ?_
    refine j_istore_n (pc' := 187) (lt_b rfl) rfl rfl dX9_count_186 ?_
    obtain ⟨e, he, hk⟩ := of_bind hk
    refine lM_count_s187 FU _ _ _ e he ?_ _
    · intro z2 ς ee _ _ _
      subst ee
      exact qM_count_x213 hk hP
  have hk := (if_neg cw7).symm.trans hk
  refine j_tout (tg := 215) (by have h0 : _ ≠ (0 : Int) := i32ne cw0; have h1 : _ ≠ (1 : Int) := i32ne cw1; have h2 : _ ≠ (2 : Int) := i32ne cw2; have h3 : _ ≠ (3 : Int) := i32ne cw3; have h4 : _ ≠ (4 : Int) := i32ne cw4; have h5 : _ ≠ (5 : Int) := i32ne cw5; have h6 : _ ≠ (6 : Int) := i32ne cw6; have h7 : _ ≠ (7 : Int) := i32ne cw7; omega) rfl dX9_count_8 ?_
  refine j_iconst (pc' := 216) (v := (-1)) rfl rfl dX9_count_215 ?_
  obtain rfl := Option.some.inj hk
  exact j_iret rfl ⟨rfl, rfl⟩ dX9_count_216 hP
theorem LM_count {σ σ' : Mem} {x1 : Int32} {r : Int32} (hk : kM_count σ x1 = some (r, σ')) : M l D dA H0 yX9_count YM_count [vR (some (30, 0)), vI x1] (hp σ) (fun x h' => x = some (vI r) ∧ h' = hp σ') :=
  m_of (j := 2) (by decide) rfl (fun hh => by cases hh) ⟨fun _ _ => trivial, rfl⟩ (le_b rfl) (qM_count hk ⟨rfl, rfl⟩)
end LINK
