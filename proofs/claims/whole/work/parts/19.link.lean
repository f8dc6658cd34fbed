section LINK
variable {l : Launch} {D : va_G} {dA : Nat → ClassId} {H0 : Heap} {h0 : Hx} {Po : Option AV → Hp → Prop}
theorem qM_plans_s5 {σ : Mem} {x1 : Int32} {out : (Int32 × Mem) ⊕ (Mem)} (hk : kM_plans_s5 (x1, σ) = some out) (hc : ∀ (z1 : Int32) (ς : Mem), out = .inl (z1, ς) → ∀ (_ : Unit), J l D dA H0 YM_plans h0 Po 0 0 (hp ς) 5 [some (vR (some (30, 0))), some (vI z1)] []) (hx0 : ∀ (ς : Mem), out = .inr ς → ∀ (o0 o1 : Option AV), J l D dA H0 YM_plans h0 Po 0 0 (hp ς) 22 [o0, o1] []) : J l D dA H0 YM_plans h0 Po 0 0 (hp σ) 5 [some (vR (some (30, 0))), some (vI x1)] [] := by
  unfold kM_plans_s5 at hk
  refine j_iload_n (pc' := 6) rfl rfl dX9_plans_5 ?_
  refine j_bipush (pc' := 8) (v := 60) rfl rfl dX9_plans_6 ?_
  refine j_ic_ge (pc' := 11) (tg := 22) rfl rfl dX9_plans_8 (fun c3 => ?_) (fun c3 => ?_)
  · have hk := (if_pos c3).symm.trans hk
    obtain rfl := Option.some.inj hk
    exact hx0 _ rfl _ _
  · have hk := (if_neg c3).symm.trans hk
    refine j_aload_n (pc' := 12) rfl rfl dX9_plans_11 ?_
    refine j_iload_n (pc' := 13) rfl rfl dX9_plans_12 ?_
    obtain ⟨⟨_, σ2⟩, hx, hk⟩ := of_bind hk
    refine j_cv0 (pc' := 16) (LM_plan hx) cv_RX9_161 ⟨le_b rfl, le_b rfl⟩ (hp_e rfl) rfl rfl (le_b rfl) ⟨rfl, rfl⟩ ⟨le_b rfl, le_b rfl⟩ rfl rfl dX9_plans_13 ?_
    refine j_iinc (pc' := 19) (v := x1 + 1) rfl rfl (lt_b rfl) rfl rfl dX9_plans_16 ?_
    refine j_goto (tg := 5) rfl dX9_plans_19 ?_
    obtain rfl := Option.some.inj hk
    exact hc _ _ rfl ()
theorem lM_plans_s5 : ∀ (n : Nat) (x1 : Int32) (σ : Mem) (e : (Mem)), loopF n (kM_plans_s5) (x1, σ) = some e → (∀ (ς : Mem), e = ς → ∀ (o0 o1 : Option AV), J l D dA H0 YM_plans h0 Po 0 0 (hp ς) 22 [o0, o1] []) → ∀ (_ : Unit), J l D dA H0 YM_plans h0 Po 0 0 (hp σ) 5 [some (vR (some (30, 0))), some (vI x1)] []
  | 0, x1, σ, e, he => by cases he
  | n + 1, x1, σ, e, he => by
    intro hx0 u
    rcases loopF_succ he with ⟨s', h1, h2⟩ | h1
    · refine qM_plans_s5 h1 ?_ ?_
      · intro z1 ς ee
        cases ee
        exact lM_plans_s5 n z1 ς e h2 hx0
      · intro ς ee
        cases ee
    · refine qM_plans_s5 h1 ?_ ?_
      · intro z1 ς ee
        cases ee
      · intro ς ee
        exact hx0 ς (Sum.inr.inj ee)
theorem qM_plans_x22 {σ : Mem} {o0 : Option AV} {o1 : Option AV} {res : Unit × Mem} (hk : kM_plans_x22 σ = some res) (hP : Po none (hp res.2)) : J l D dA H0 YM_plans h0 Po 0 0 (hp σ) 22 [o0, o1] [] := by
  unfold kM_plans_x22 at hk
  obtain rfl := Option.some.inj hk
  exact j_ret rfl ⟨rfl, rfl⟩ dX9_plans_22 hP
theorem qM_plans {σ : Mem} {o1 : Option AV} {res : Unit × Mem} (hk : kM_plans σ = some res) (hP : Po none (hp res.2)) : J l D dA H0 YM_plans h0 Po 0 0 (hp σ) 0 [some (vR (some (30, 0))), o1] [] := by
  unfold kM_plans at hk
  refine j_aload_n (pc' := 1) rfl rfl dX9_plans_0 ?_
  refine j_getf (pc' := 4) fg_RX9_158 (hp_e rfl) rfl rfl dX9_plans_1 ?_
  refine j_istore_n (pc' := 5) (lt_b rfl) rfl rfl dX9_plans_4 ?_
  obtain ⟨e, he, hk⟩ := of_bind hk
  refine lM_plans_s5 FU _ _ e he ?_ ()
  · intro ς ee _ _
    subst ee
    exact qM_plans_x22 hk hP
theorem LM_plans {σ σ' : Mem} {r : Unit} (hk : kM_plans σ = some (r, σ')) : M l D dA H0 yX9_plans YM_plans [vR (some (30, 0))] (hp σ) (fun x h' => x = none ∧ h' = hp σ') :=
  m_of (j := 1) (by decide) rfl (fun hh => by cases hh) ⟨fun _ _ => trivial, rfl⟩ (le_b rfl) (qM_plans hk ⟨rfl, rfl⟩)
theorem qM_costOf_s6 {σ : Mem} {x1 : Int32} {x2 : Int32} {x3 : Int32} {x4 : Int64} {x6 : Int32} {o5 : Option AV} {o7 : Option AV} {o8 : Option AV} {out : (Int64 × Int32 × Mem) ⊕ (Int64 × Mem)} (hk : kM_costOf_s6 x1 x2 x3 (x4, x6, σ) = some out) (hc : ∀ (z4 : Int64) (z6 : Int32) (ς : Mem), out = .inl (z4, z6, ς) → ∀ (o5 o7 o8 : Option AV), J l D dA H0 YM_costOf h0 Po 0 0 (hp ς) 6 [some (vR (some (30, 0))), some (vI x1), some (vI x2), some (vI x3), some (vL z4), o5, some (vI z6), o7, o8] []) (hx0 : ∀ (z4 : Int64) (ς : Mem), out = .inr (z4, ς) → ∀ (o1 o5 o6 o7 o8 : Option AV), J l D dA H0 YM_costOf h0 Po 0 0 (hp ς) 36 [some (vR (some (30, 0))), o1, some (vI x2), some (vI x3), some (vL z4), o5, o6, o7, o8] []) : J l D dA H0 YM_costOf h0 Po 0 0 (hp σ) 6 [some (vR (some (30, 0))), some (vI x1), some (vI x2), some (vI x3), some (vL x4), o5, some (vI x6), o7, o8] [] := by
  unfold kM_costOf_s6 at hk
  refine j_iload (pc' := 8) rfl rfl dX9_costOf_6 ?_
  refine j_iload_n (pc' := 9) rfl rfl dX9_costOf_8 ?_
  refine j_ic_ge (pc' := 12) (tg := 36) rfl rfl dX9_costOf_9 (fun c2 => ?_) (fun c2 => ?_)
  · have hk := (if_pos c2).symm.trans hk
    obtain rfl := Option.some.inj hk
    exact hx0 _ _ rfl _ _ _ _ _
  · have hk := (if_neg c2).symm.trans hk
    refine j_lload (pc' := 14) rfl rfl dX9_costOf_12 ?_
    refine j_aload_n (pc' := 15) rfl rfl dX9_costOf_14 ?_
    refine j_getf (pc' := 18) fg_RX9_82 (hp_e rfl) rfl rfl dX9_costOf_15 ?_
    refine j_bipush (pc' := 20) (v := 60) rfl rfl dX9_costOf_18 ?_
    refine j_iload_n (pc' := 21) rfl rfl dX9_costOf_20 ?_
    refine j_imul (pc' := 22) rfl dX9_costOf_21 ?_
    refine j_iload (pc' := 24) rfl rfl dX9_costOf_22 ?_
    refine j_iadd (pc' := 25) rfl dX9_costOf_24 ?_
    obtain ⟨g1, hk⟩ := of_ite hk
    refine j_iald (pc' := 26) (hp_e rfl) (inR_in g1) rfl dX9_costOf_25 ?_
    refine j_i2l (pc' := 27) rfl dX9_costOf_26 ?_
    refine j_ladd (pc' := 28) rfl dX9_costOf_27 ?_
    refine j_lstore (pc' := 30) (lt_b rfl) rfl rfl dX9_costOf_28 ?_
    refine j_iinc (pc' := 33) (v := x6 + 1) rfl rfl (lt_b rfl) rfl rfl dX9_costOf_30 ?_
    refine j_goto (tg := 6) rfl dX9_costOf_33 ?_
    obtain rfl := Option.some.inj hk
    exact hc _ _ _ rfl _ _ _
theorem lM_costOf_s6 {x1 : Int32} {x2 : Int32} {x3 : Int32} : ∀ (n : Nat) (x4 : Int64) (x6 : Int32) (σ : Mem) (e : (Int64 × Mem)), loopF n (kM_costOf_s6 x1 x2 x3) (x4, x6, σ) = some e → (∀ (z4 : Int64) (ς : Mem), e = (z4, ς) → ∀ (o1 o5 o6 o7 o8 : Option AV), J l D dA H0 YM_costOf h0 Po 0 0 (hp ς) 36 [some (vR (some (30, 0))), o1, some (vI x2), some (vI x3), some (vL z4), o5, o6, o7, o8] []) → ∀ (o5 o7 o8 : Option AV), J l D dA H0 YM_costOf h0 Po 0 0 (hp σ) 6 [some (vR (some (30, 0))), some (vI x1), some (vI x2), some (vI x3), some (vL x4), o5, some (vI x6), o7, o8] []
  | 0, x4, x6, σ, e, he => by cases he
  | n + 1, x4, x6, σ, e, he => by
    intro hx0 o5 o7 o8
    rcases loopF_succ he with ⟨s', h1, h2⟩ | h1
    · refine qM_costOf_s6 h1 ?_ ?_
      · intro z4 z6 ς ee
        cases ee
        exact lM_costOf_s6 n z4 z6 ς e h2 hx0
      · intro z4 ς ee
        cases ee
    · refine qM_costOf_s6 h1 ?_ ?_
      · intro z4 z6 ς ee
        cases ee
      · intro z4 ς ee
        exact hx0 z4 ς (Sum.inr.inj ee)
theorem qM_costOf_j166 {σ : Mem} {x2 : Int32} {x3 : Int32} {x4 : Int64} {x6 : Int64} {x8 : Int32} {o1 : Option AV} {o5 : Option AV} {o7 : Option AV} {out : Int64 × Int32 × Mem ⊕ ((Mem) ⊕ (Int64 × Mem))} (hk : kM_costOf_j166 σ x2 x3 x4 x6 x8 = some out) (hc : ∀ (z6 : Int64) (z8 : Int32) (ς : Mem), out = .inl (z6, z8, ς) → ∀ (o1 o5 o7 : Option AV), J l D dA H0 YM_costOf h0 Po 0 0 (hp ς) 44 [some (vR (some (30, 0))), o1, some (vI x2), some (vI x3), some (vL x4), o5, some (vL z6), o7, some (vI z8)] []) (hx0 : ∀ (ς : Mem), out = .inr (.inl ς) → ∀ (o0 o1 o2 o3 o4 o5 o6 o7 o8 : Option AV), J l D dA H0 YM_costOf h0 Po 0 0 (hp ς) 112 [o0, o1, o2, o3, o4, o5, o6, o7, o8] []) (hx1 : ∀ (z6 : Int64) (ς : Mem), out = .inr (.inr (z6, ς)) → ∀ (o0 o1 o2 o3 o5 o7 o8 : Option AV), J l D dA H0 YM_costOf h0 Po 0 0 (hp ς) 185 [o0, o1, o2, o3, some (vL x4), o5, some (vL z6), o7, o8] []) : J l D dA H0 YM_costOf h0 Po 0 0 (hp σ) 166 [some (vR (some (30, 0))), o1, some (vI x2), some (vI x3), some (vL x4), o5, some (vL x6), o7, some (vI x8)] [] := by
  unfold kM_costOf_j166 at hk
  refine j_lload (pc' := 168) rfl rfl dX9_costOf_166 ?_
  refine j_aload_n (pc' := 169) rfl rfl dX9_costOf_168 ?_
  refine j_getf (pc' := 172) fg_RX9_91 (hp_e rfl) rfl rfl dX9_costOf_169 ?_
  refine j_iload (pc' := 174) rfl rfl dX9_costOf_172 ?_
  obtain ⟨g8, hk⟩ := of_ite hk
  refine j_iald (pc' := 175) (hp_e rfl) (inR_in g8) rfl dX9_costOf_174 ?_
  refine j_i2l (pc' := 176) rfl dX9_costOf_175 ?_
  refine j_ladd (pc' := 177) rfl dX9_costOf_176 ?_
  refine j_lstore (pc' := 179) (lt_b rfl) rfl rfl dX9_costOf_177 ?_
  refine j_iinc (pc' := 182) (v := x8 + 1) rfl rfl (lt_b rfl) rfl rfl dX9_costOf_179 ?_
  refine j_goto (tg := 44) rfl dX9_costOf_182 ?_
  obtain rfl := Option.some.inj hk
  exact hc _ _ _ rfl _ _ _
theorem qM_costOf_j139 {σ : Mem} {x2 : Int32} {x3 : Int32} {x4 : Int64} {x6 : Int64} {x8 : Int32} {o1 : Option AV} {o5 : Option AV} {o7 : Option AV} {out : Int64 × Int32 × Mem ⊕ ((Mem) ⊕ (Int64 × Mem))} (hk : kM_costOf_j139 σ x2 x3 x4 x6 x8 = some out) (hc : ∀ (z6 : Int64) (z8 : Int32) (ς : Mem), out = .inl (z6, z8, ς) → ∀ (o1 o5 o7 : Option AV), J l D dA H0 YM_costOf h0 Po 0 0 (hp ς) 44 [some (vR (some (30, 0))), o1, some (vI x2), some (vI x3), some (vL x4), o5, some (vL z6), o7, some (vI z8)] []) (hx0 : ∀ (ς : Mem), out = .inr (.inl ς) → ∀ (o0 o1 o2 o3 o4 o5 o6 o7 o8 : Option AV), J l D dA H0 YM_costOf h0 Po 0 0 (hp ς) 112 [o0, o1, o2, o3, o4, o5, o6, o7, o8] []) (hx1 : ∀ (z6 : Int64) (ς : Mem), out = .inr (.inr (z6, ς)) → ∀ (o0 o1 o2 o3 o5 o7 o8 : Option AV), J l D dA H0 YM_costOf h0 Po 0 0 (hp ς) 185 [o0, o1, o2, o3, some (vL x4), o5, some (vL z6), o7, o8] []) : J l D dA H0 YM_costOf h0 Po 0 0 (hp σ) 139 [some (vR (some (30, 0))), o1, some (vI x2), some (vI x3), some (vL x4), o5, some (vL x6), o7, some (vI x8)] [] := by
  unfold kM_costOf_j139 at hk
  refine j_aload_n (pc' := 140) rfl rfl dX9_costOf_139 ?_
  refine j_getf (pc' := 143) fg_RX9_85 (hp_e rfl) rfl rfl dX9_costOf_140 ?_
  refine j_iload (pc' := 145) rfl rfl dX9_costOf_143 ?_
  obtain ⟨g6, hk⟩ := of_ite hk
  refine j_iald (pc' := 146) (hp_e rfl) (inR_in g6) rfl dX9_costOf_145 ?_
  refine j_iconst (pc' := 147) (v := 1) rfl rfl dX9_costOf_146 ?_
  refine j_ic_ne (pc' := 150) (tg := 179) rfl rfl dX9_costOf_147 (fun c10 => ?_) (fun c10 => ?_)
  · have hk := (if_neg c10).symm.trans hk
    refine j_iinc (pc' := 182) (v := x8 + 1) rfl rfl (lt_b rfl) rfl rfl dX9_costOf_179 ?_
    refine j_goto (tg := 44) rfl dX9_costOf_182 ?_
    obtain rfl := Option.some.inj hk
    exact hc _ _ _ rfl _ _ _
  · have hk := (if_pos c10).symm.trans hk
    refine j_iload_n (pc' := 151) rfl rfl dX9_costOf_150 ?_
    refine j_aload_n (pc' := 152) rfl rfl dX9_costOf_151 ?_
    refine j_getf (pc' := 155) fg_RX9_158 (hp_e rfl) rfl rfl dX9_costOf_152 ?_
    refine j_isub (pc' := 156) rfl dX9_costOf_155 ?_
    refine j_aload_n (pc' := 157) rfl rfl dX9_costOf_156 ?_
    refine j_getf (pc' := 160) fg_RX9_88 (hp_e rfl) rfl rfl dX9_costOf_157 ?_
    refine j_iload (pc' := 162) rfl rfl dX9_costOf_160 ?_
    obtain ⟨g7, hk⟩ := of_ite hk
    refine j_iald (pc' := 163) (hp_e rfl) (inR_in g7) rfl dX9_costOf_162 ?_
    refine j_ic_lt (pc' := 166) (tg := 179) rfl rfl dX9_costOf_163 (fun c9 => ?_) (fun c9 => ?_)
    · have hk := (if_pos c9).symm.trans hk
      refine j_iinc (pc' := 182) (v := x8 + 1) rfl rfl (lt_b rfl) rfl rfl dX9_costOf_179 ?_
      refine j_goto (tg := 44) rfl dX9_costOf_182 ?_
      obtain rfl := Option.some.inj hk
      exact hc _ _ _ rfl _ _ _
    · have hk := (if_neg c9).symm.trans hk
      exact qM_costOf_j166 hk hc hx0 hx1
theorem qM_costOf_j116 {σ : Mem} {x2 : Int32} {x3 : Int32} {x4 : Int64} {x6 : Int64} {x8 : Int32} {o1 : Option AV} {o5 : Option AV} {o7 : Option AV} {out : Int64 × Int32 × Mem ⊕ ((Mem) ⊕ (Int64 × Mem))} (hk : kM_costOf_j116 σ x2 x3 x4 x6 x8 = some out) (hc : ∀ (z6 : Int64) (z8 : Int32) (ς : Mem), out = .inl (z6, z8, ς) → ∀ (o1 o5 o7 : Option AV), J l D dA H0 YM_costOf h0 Po 0 0 (hp ς) 44 [some (vR (some (30, 0))), o1, some (vI x2), some (vI x3), some (vL x4), o5, some (vL z6), o7, some (vI z8)] []) (hx0 : ∀ (ς : Mem), out = .inr (.inl ς) → ∀ (o0 o1 o2 o3 o4 o5 o6 o7 o8 : Option AV), J l D dA H0 YM_costOf h0 Po 0 0 (hp ς) 112 [o0, o1, o2, o3, o4, o5, o6, o7, o8] []) (hx1 : ∀ (z6 : Int64) (ς : Mem), out = .inr (.inr (z6, ς)) → ∀ (o0 o1 o2 o3 o5 o7 o8 : Option AV), J l D dA H0 YM_costOf h0 Po 0 0 (hp ς) 185 [o0, o1, o2, o3, some (vL x4), o5, some (vL z6), o7, o8] []) : J l D dA H0 YM_costOf h0 Po 0 0 (hp σ) 116 [some (vR (some (30, 0))), o1, some (vI x2), some (vI x3), some (vL x4), o5, some (vL x6), o7, some (vI x8)] [] := by
  unfold kM_costOf_j116 at hk
  refine j_aload_n (pc' := 117) rfl rfl dX9_costOf_116 ?_
  refine j_getf (pc' := 120) fg_RX9_85 (hp_e rfl) rfl rfl dX9_costOf_117 ?_
  refine j_iload (pc' := 122) rfl rfl dX9_costOf_120 ?_
  obtain ⟨g5, hk⟩ := of_ite hk
  refine j_iald (pc' := 123) (hp_e rfl) (inR_in g5) rfl dX9_costOf_122 ?_
  refine j_if_ne (pc' := 126) (tg := 139) rfl rfl dX9_costOf_123 (fun c13 => ?_) (fun c13 => ?_)
  · have hk := (if_neg c13).symm.trans hk
    exact qM_costOf_j139 hk hc hx0 hx1
  · have hk := (if_pos c13).symm.trans hk
    refine j_iload_n (pc' := 127) rfl rfl dX9_costOf_126 ?_
    refine j_iload_n (pc' := 128) rfl rfl dX9_costOf_127 ?_
    refine j_isub (pc' := 129) rfl dX9_costOf_128 ?_
    refine j_aload_n (pc' := 130) rfl rfl dX9_costOf_129 ?_
    refine j_getf (pc' := 133) fg_RX9_88 (hp_e rfl) rfl rfl dX9_costOf_130 ?_
    refine j_iload (pc' := 135) rfl rfl dX9_costOf_133 ?_
    obtain ⟨g11, hk⟩ := of_ite hk
    refine j_iald (pc' := 136) (hp_e rfl) (inR_in g11) rfl dX9_costOf_135 ?_
    refine j_ic_ge (pc' := 139) (tg := 166) rfl rfl dX9_costOf_136 (fun c12 => ?_) (fun c12 => ?_)
    · have hk := (if_pos c12).symm.trans hk
      exact qM_costOf_j166 hk hc hx0 hx1
    · have hk := (if_neg c12).symm.trans hk
      exact qM_costOf_j139 hk hc hx0 hx1
theorem qM_costOf_s44 {σ : Mem} {x2 : Int32} {x3 : Int32} {x4 : Int64} {x6 : Int64} {x8 : Int32} {o1 : Option AV} {o5 : Option AV} {o7 : Option AV} {out : (Int64 × Int32 × Mem) ⊕ ((Mem) ⊕ (Int64 × Mem))} (hk : kM_costOf_s44 x2 x3 x4 (x6, x8, σ) = some out) (hc : ∀ (z6 : Int64) (z8 : Int32) (ς : Mem), out = .inl (z6, z8, ς) → ∀ (o1 o5 o7 : Option AV), J l D dA H0 YM_costOf h0 Po 0 0 (hp ς) 44 [some (vR (some (30, 0))), o1, some (vI x2), some (vI x3), some (vL x4), o5, some (vL z6), o7, some (vI z8)] []) (hx0 : ∀ (ς : Mem), out = .inr (.inl ς) → ∀ (o0 o1 o2 o3 o4 o5 o6 o7 o8 : Option AV), J l D dA H0 YM_costOf h0 Po 0 0 (hp ς) 112 [o0, o1, o2, o3, o4, o5, o6, o7, o8] []) (hx1 : ∀ (z6 : Int64) (ς : Mem), out = .inr (.inr (z6, ς)) → ∀ (o0 o1 o2 o3 o5 o7 o8 : Option AV), J l D dA H0 YM_costOf h0 Po 0 0 (hp ς) 185 [o0, o1, o2, o3, some (vL x4), o5, some (vL z6), o7, o8] []) : J l D dA H0 YM_costOf h0 Po 0 0 (hp σ) 44 [some (vR (some (30, 0))), o1, some (vI x2), some (vI x3), some (vL x4), o5, some (vL x6), o7, some (vI x8)] [] := by
  unfold kM_costOf_s44 at hk
  refine j_iload (pc' := 46) rfl rfl dX9_costOf_44 ?_
  refine j_aload_n (pc' := 47) rfl rfl dX9_costOf_46 ?_
  refine j_getf (pc' := 50) fg_RX9_166 (hp_e rfl) rfl rfl dX9_costOf_47 ?_
  refine j_ic_ge (pc' := 53) (tg := 185) rfl rfl dX9_costOf_50 (fun c22 => ?_) (fun c22 => ?_)
  · have hk := (if_pos c22).symm.trans hk
    obtain rfl := Option.some.inj hk
    exact hx1 _ _ rfl _ _ _ _ _ _ _
  · have hk := (if_neg c22).symm.trans hk
    refine j_aload_n (pc' := 54) rfl rfl dX9_costOf_53 ?_
    refine j_getf (pc' := 57) fg_RX9_94 (hp_e rfl) rfl rfl dX9_costOf_54 ?_
    refine j_iload (pc' := 59) rfl rfl dX9_costOf_57 ?_
    obtain ⟨g3, hk⟩ := of_ite hk
    refine j_bald (pc' := 60) (hp_e rfl) (inR_in g3) rfl dX9_costOf_59 ?_
    refine j_if_ne (pc' := 63) (tg := 66) rfl rfl dX9_costOf_60 (fun c21 => ?_) (fun c21 => ?_)
    · have hk := (if_neg c21).symm.trans hk
      refine j_aload_n (pc' := 67) rfl rfl dX9_costOf_66 ?_
      refine j_getf (pc' := 70) fg_RX9_85 (hp_e rfl) rfl rfl dX9_costOf_67 ?_
      refine j_iload (pc' := 72) rfl rfl dX9_costOf_70 ?_
      obtain ⟨g4, hk⟩ := of_ite hk
      refine j_iald (pc' := 73) (hp_e rfl) (inR_in g4) rfl dX9_costOf_72 ?_
      refine j_iconst (pc' := 74) (v := 2) rfl rfl dX9_costOf_73 ?_
      refine j_ic_ne (pc' := 77) (tg := 116) rfl rfl dX9_costOf_74 (fun c20 => ?_) (fun c20 => ?_)
      · have hk := (if_neg c20).symm.trans hk
        exact qM_costOf_j116 hk hc hx0 hx1
      · have hk := (if_pos c20).symm.trans hk
        refine j_aload_n (pc' := 78) rfl rfl dX9_costOf_77 ?_
        refine j_getf (pc' := 81) fg_RX9_88 (hp_e rfl) rfl rfl dX9_costOf_78 ?_
        refine j_iload (pc' := 83) rfl rfl dX9_costOf_81 ?_
        obtain ⟨g14, hk⟩ := of_ite hk
        refine j_iald (pc' := 84) (hp_e rfl) (inR_in g14) rfl dX9_costOf_83 ?_
        refine j_iload_n (pc' := 85) rfl rfl dX9_costOf_84 ?_
        refine j_ic_lt (pc' := 88) (tg := 116) rfl rfl dX9_costOf_85 (fun c19 => ?_) (fun c19 => ?_)
        · have hk := (if_pos c19).symm.trans hk
          exact qM_costOf_j116 hk hc hx0 hx1
        · have hk := (if_neg c19).symm.trans hk
          refine j_aload_n (pc' := 89) rfl rfl dX9_costOf_88 ?_
          refine j_getf (pc' := 92) fg_RX9_88 (hp_e rfl) rfl rfl dX9_costOf_89 ?_
          refine j_iload (pc' := 94) rfl rfl dX9_costOf_92 ?_
          obtain ⟨g15, hk⟩ := of_ite hk
          refine j_iald (pc' := 95) (hp_e rfl) (inR_in g15) rfl dX9_costOf_94 ?_
          refine j_iload_n (pc' := 96) rfl rfl dX9_costOf_95 ?_
          refine j_ic_ge (pc' := 99) (tg := 116) rfl rfl dX9_costOf_96 (fun c18 => ?_) (fun c18 => ?_)
          · have hk := (if_pos c18).symm.trans hk
            exact qM_costOf_j116 hk hc hx0 hx1
          · have hk := (if_neg c18).symm.trans hk
            refine j_aload_n (pc' := 100) rfl rfl dX9_costOf_99 ?_
            refine j_getf (pc' := 103) fg_RX9_88 (hp_e rfl) rfl rfl dX9_costOf_100 ?_
            refine j_iload (pc' := 105) rfl rfl dX9_costOf_103 ?_
            obtain ⟨g16, hk⟩ := of_ite hk
            refine j_iald (pc' := 106) (hp_e rfl) (inR_in g16) rfl dX9_costOf_105 ?_
            refine j_iconst (pc' := 107) (v := 1) rfl rfl dX9_costOf_106 ?_
            refine j_iadd (pc' := 108) rfl dX9_costOf_107 ?_
            refine j_iload_n (pc' := 109) rfl rfl dX9_costOf_108 ?_
            refine j_ic_lt (pc' := 112) (tg := 116) rfl rfl dX9_costOf_109 (fun c17 => ?_) (fun c17 => ?_)
            · have hk := (if_pos c17).symm.trans hk
              exact qM_costOf_j116 hk hc hx0 hx1
            · have hk := (if_neg c17).symm.trans hk
              obtain rfl := Option.some.inj hk
              exact hx0 _ rfl _ _ _ _ _ _ _ _ _
    · have hk := (if_pos c21).symm.trans hk
      refine j_goto (tg := 179) rfl dX9_costOf_63 ?_
      refine j_iinc (pc' := 182) (v := x8 + 1) rfl rfl (lt_b rfl) rfl rfl dX9_costOf_179 ?_
      refine j_goto (tg := 44) rfl dX9_costOf_182 ?_
      obtain rfl := Option.some.inj hk
      exact hc _ _ _ rfl _ _ _
theorem lM_costOf_s44 {x2 : Int32} {x3 : Int32} {x4 : Int64} : ∀ (n : Nat) (x6 : Int64) (x8 : Int32) (σ : Mem) (e : ((Mem) ⊕ (Int64 × Mem))), loopF n (kM_costOf_s44 x2 x3 x4) (x6, x8, σ) = some e → (∀ (ς : Mem), e = (.inl ς) → ∀ (o0 o1 o2 o3 o4 o5 o6 o7 o8 : Option AV), J l D dA H0 YM_costOf h0 Po 0 0 (hp ς) 112 [o0, o1, o2, o3, o4, o5, o6, o7, o8] []) → (∀ (z6 : Int64) (ς : Mem), e = (.inr (z6, ς)) → ∀ (o0 o1 o2 o3 o5 o7 o8 : Option AV), J l D dA H0 YM_costOf h0 Po 0 0 (hp ς) 185 [o0, o1, o2, o3, some (vL x4), o5, some (vL z6), o7, o8] []) → ∀ (o1 o5 o7 : Option AV), J l D dA H0 YM_costOf h0 Po 0 0 (hp σ) 44 [some (vR (some (30, 0))), o1, some (vI x2), some (vI x3), some (vL x4), o5, some (vL x6), o7, some (vI x8)] []
  | 0, x6, x8, σ, e, he => by cases he
  | n + 1, x6, x8, σ, e, he => by
    intro hx0 hx1 o1 o5 o7
    rcases loopF_succ he with ⟨s', h1, h2⟩ | h1
    · refine qM_costOf_s44 h1 ?_ ?_ ?_
      · intro z6 z8 ς ee
        cases ee
        exact lM_costOf_s44 n z6 z8 ς e h2 hx0 hx1
      · intro ς ee
        cases ee
      · intro z6 ς ee
        cases ee
    · refine qM_costOf_s44 h1 ?_ ?_ ?_
      · intro z6 z8 ς ee
        cases ee
      · intro ς ee
        exact hx0 ς (Sum.inr.inj ee)
      · intro z6 ς ee
        exact hx1 z6 ς (Sum.inr.inj ee)
theorem qM_costOf_x112 {σ : Mem} {o0 : Option AV} {o1 : Option AV} {o2 : Option AV} {o3 : Option AV} {o4 : Option AV} {o5 : Option AV} {o6 : Option AV} {o7 : Option AV} {o8 : Option AV} {res : Int64 × Mem} (hk : kM_costOf_x112 σ = some res) (hP : Po (some (vL res.1)) (hp res.2)) : J l D dA H0 YM_costOf h0 Po 0 0 (hp σ) 112 [o0, o1, o2, o3, o4, o5, o6, o7, o8] [] := by
  unfold kM_costOf_x112 at hk
  refine j_ldc2 (pc' := 115) (v := (-1)) (gd_of (i := 1027) (by decide +kernel) rfl) rfl dX9_costOf_112 ?_
  obtain rfl := Option.some.inj hk
  exact j_lret rfl ⟨rfl, rfl⟩ dX9_costOf_115 hP
theorem qM_costOf_x185 {σ : Mem} {x4 : Int64} {x6 : Int64} {o0 : Option AV} {o1 : Option AV} {o2 : Option AV} {o3 : Option AV} {o5 : Option AV} {o7 : Option AV} {o8 : Option AV} {res : Int64 × Mem} (hk : kM_costOf_x185 σ x4 x6 = some res) (hP : Po (some (vL res.1)) (hp res.2)) : J l D dA H0 YM_costOf h0 Po 0 0 (hp σ) 185 [o0, o1, o2, o3, some (vL x4), o5, some (vL x6), o7, o8] [] := by
  unfold kM_costOf_x185 at hk
  refine j_lload (pc' := 187) rfl rfl dX9_costOf_185 ?_
  refine j_lconst (pc' := 188) (v := 0) rfl rfl dX9_costOf_187 ?_
  refine j_lcmp (pc' := 189) rfl dX9_costOf_188 ?_
  refine j_if_ge (pc' := 192) (tg := 196) rfl rfl dX9_costOf_189 (fun c23 => ?_) (fun c23 => ?_)
  · have hk := (if_pos c23).symm.trans hk
    refine j_lload (pc' := 198) rfl rfl dX9_costOf_196 ?_
    refine j_lload (pc' := 200) rfl rfl dX9_costOf_198 ?_
    refine j_lmul (pc' := 201) rfl dX9_costOf_200 ?_
    refine j_ldc2 (pc' := 204) (v := 100) (gd_of (i := 1032) (by decide +kernel) rfl) rfl dX9_costOf_201 ?_
    refine j_ldiv (pc' := 205) (by decide) rfl dX9_costOf_204 ?_
    obtain rfl := Option.some.inj hk
    exact j_lret rfl ⟨rfl, rfl⟩ dX9_costOf_205 hP
  · have hk := (if_neg c23).symm.trans hk
    refine j_lconst (pc' := 193) (v := 0) rfl rfl dX9_costOf_192 ?_
    refine j_goto (tg := 205) rfl dX9_costOf_193 ?_
    obtain rfl := Option.some.inj hk
    exact j_lret rfl ⟨rfl, rfl⟩ dX9_costOf_205 hP
theorem qM_costOf_x36 {σ : Mem} {x2 : Int32} {x3 : Int32} {x4 : Int64} {o1 : Option AV} {o5 : Option AV} {o6 : Option AV} {o7 : Option AV} {o8 : Option AV} {res : Int64 × Mem} (hk : kM_costOf_x36 σ x2 x3 x4 = some res) (hP : Po (some (vL res.1)) (hp res.2)) : J l D dA H0 YM_costOf h0 Po 0 0 (hp σ) 36 [some (vR (some (30, 0))), o1, some (vI x2), some (vI x3), some (vL x4), o5, o6, o7, o8] [] := by
  unfold kM_costOf_x36 at hk
  refine j_ldc2 (pc' := 39) (v := 100) (gd_of (i := 1032) (by decide +kernel) rfl) rfl dX9_costOf_36 ?_
  refine j_lstore (pc' := 41) (lt_b rfl) rfl rfl dX9_costOf_39 ?_
  refine j_iconst (pc' := 42) (v := 0) rfl rfl dX9_costOf_41 ?_
  refine j_istore (pc' := 44) (lt_b rfl) rfl rfl dX9_costOf_42 ?_
  obtain ⟨e, he, hk⟩ := of_bind hk
  refine lM_costOf_s44 FU _ _ _ e he ?_ ?_ _ _ _
  · intro ς ee _ _ _ _ _ _ _ _ _
    subst ee
    exact qM_costOf_x112 hk hP
  · intro z6 ς ee _ _ _ _ _ _ _
    subst ee
    exact qM_costOf_x185 hk hP
theorem qM_costOf {σ : Mem} {x1 : Int32} {x2 : Int32} {x3 : Int32} {o4 : Option AV} {o5 : Option AV} {o6 : Option AV} {o7 : Option AV} {o8 : Option AV} {res : Int64 × Mem} (hk : kM_costOf σ x1 x2 x3 = some res) (hP : Po (some (vL res.1)) (hp res.2)) : J l D dA H0 YM_costOf h0 Po 0 0 (hp σ) 0 [some (vR (some (30, 0))), some (vI x1), some (vI x2), some (vI x3), o4, o5, o6, o7, o8] [] := by
  unfold kM_costOf at hk
  refine j_lconst (pc' := 1) (v := 0) rfl rfl dX9_costOf_0 ?_
  refine j_lstore (pc' := 3) (lt_b rfl) rfl rfl dX9_costOf_1 ?_
  refine j_iload_n (pc' := 4) rfl rfl dX9_costOf_3 ?_
  refine j_istore (pc' := 6) (lt_b rfl) rfl rfl dX9_costOf_4 ?_
  obtain ⟨e, he, hk⟩ := of_bind hk
  refine lM_costOf_s6 FU _ _ _ e he ?_ _ _ _
  · intro z4 ς ee _ _ _ _ _
    subst ee
    exact qM_costOf_x36 hk hP
theorem LM_costOf {σ σ' : Mem} {x1 : Int32} {x2 : Int32} {x3 : Int32} {r : Int64} (hk : kM_costOf σ x1 x2 x3 = some (r, σ')) : M l D dA H0 yX9_costOf YM_costOf [vR (some (30, 0)), vI x1, vI x2, vI x3] (hp σ) (fun x h' => x = some (vL r) ∧ h' = hp σ') :=
  m_of (j := 5) (by decide) rfl (fun hh => by cases hh) ⟨fun _ _ => trivial, rfl⟩ (le_b rfl) (qM_costOf hk ⟨rfl, rfl⟩)
theorem qM_ways_j166 {σ : Mem} {x1 : Int32} {x2 : Int32} {x3 : Int32} {x4 : Int32} {x5 : Int32} {x6 : Int64} {x8 : Int32} {o7 : Option AV} {out : Int32 × Mem ⊕ (Mem)} (hk : kM_ways_j166 σ x1 x2 x3 x4 x5 x6 x8 = some out) (hc : ∀ (z5 : Int32) (ς : Mem), out = .inl (z5, ς) → ∀ (o6 o7 o8 : Option AV), J l D dA H0 YM_ways h0 Po 0 0 (hp ς) 38 [some (vR (some (30, 0))), some (vI x1), some (vI x2), some (vI x3), some (vI x4), some (vI z5), o6, o7, o8] []) (hx0 : ∀ (ς : Mem), out = .inr ς → ∀ (o5 o6 o7 o8 : Option AV), J l D dA H0 YM_ways h0 Po 0 0 (hp ς) 190 [some (vR (some (30, 0))), some (vI x1), some (vI x2), some (vI x3), some (vI x4), o5, o6, o7, o8] []) : J l D dA H0 YM_ways h0 Po 0 0 (hp σ) 166 [some (vR (some (30, 0))), some (vI x1), some (vI x2), some (vI x3), some (vI x4), some (vI x5), some (vL x6), o7, some (vI x8)] [] := by
  unfold kM_ways_j166 at hk
  refine j_aload_n (pc' := 167) rfl rfl dX9_ways_166 ?_
  refine j_getf (pc' := 170) fg_RX9_97 (hp_e rfl) rfl rfl dX9_ways_167 ?_
  refine j_iload (pc' := 172) rfl rfl dX9_ways_170 ?_
  refine j_lload (pc' := 174) rfl rfl dX9_ways_172 ?_
  obtain ⟨g10, hk⟩ := of_ite hk
  refine j_sl (pc' := 175) (fun _ _ _ => rfl) (inR_in g10) rfl dX9_ways_174 ?_
  refine j_aload_n (pc' := 176) rfl rfl dX9_ways_175 ?_
  refine j_getf (pc' := 179) fg_RX9_100 (hp_e rfl) rfl rfl dX9_ways_176 ?_
  refine j_iload (pc' := 181) rfl rfl dX9_ways_179 ?_
  refine j_iload (pc' := 183) rfl rfl dX9_ways_181 ?_
  obtain ⟨g11, hk⟩ := of_ite hk
  refine j_si (pc' := 184) (fun _ _ _ => rfl) (inR_in g11) rfl dX9_ways_183 ?_
  refine j_iinc (pc' := 187) (v := x5 + 1) rfl rfl (lt_b rfl) rfl rfl dX9_ways_184 ?_
  refine j_goto (tg := 38) rfl dX9_ways_187 ?_
  obtain rfl := Option.some.inj hk
  exact hc _ _ rfl _ _ _
theorem qM_ways_j74 {σ : Mem} {x1 : Int32} {x2 : Int32} {x3 : Int32} {x4 : Int32} {x5 : Int32} {y0 : Int64} {o6 : Option AV} {o7 : Option AV} {o8 : Option AV} {out : Int32 × Mem ⊕ (Mem)} (hk : kM_ways_j74 σ x1 x2 x3 x4 x5 y0 = some out) (hc : ∀ (z5 : Int32) (ς : Mem), out = .inl (z5, ς) → ∀ (o6 o7 o8 : Option AV), J l D dA H0 YM_ways h0 Po 0 0 (hp ς) 38 [some (vR (some (30, 0))), some (vI x1), some (vI x2), some (vI x3), some (vI x4), some (vI z5), o6, o7, o8] []) (hx0 : ∀ (ς : Mem), out = .inr ς → ∀ (o5 o6 o7 o8 : Option AV), J l D dA H0 YM_ways h0 Po 0 0 (hp ς) 190 [some (vR (some (30, 0))), some (vI x1), some (vI x2), some (vI x3), some (vI x4), o5, o6, o7, o8] []) : J l D dA H0 YM_ways h0 Po 0 0 (hp σ) 74 [some (vR (some (30, 0))), some (vI x1), some (vI x2), some (vI x3), some (vI x4), some (vI x5), o6, o7, o8] [vL y0] := by
  unfold kM_ways_j74 at hk
  refine j_lstore (pc' := 76) (lt_b rfl) rfl rfl dX9_ways_74 ?_
  refine j_lload (pc' := 78) rfl rfl dX9_ways_76 ?_
  refine j_ldc2 (pc' := 81) (v := (-1)) (gd_of (i := 1027) (by decide +kernel) rfl) rfl dX9_ways_78 ?_
  refine j_lcmp (pc' := 82) rfl dX9_ways_81 ?_
  refine j_if_ne (pc' := 85) (tg := 88) rfl rfl dX9_ways_82 (fun c19 => ?_) (fun c19 => ?_)
  · have hk := (if_neg c19).symm.trans hk
    refine j_lload (pc' := 90) rfl rfl dX9_ways_88 ?_
    refine j_aload_n (pc' := 91) rfl rfl dX9_ways_90 ?_
    refine j_getf (pc' := 94) fg_RX9_97 (hp_e rfl) rfl rfl dX9_ways_91 ?_
    refine j_iload (pc' := 96) rfl rfl dX9_ways_94 ?_
    obtain ⟨g7, hk⟩ := of_ite hk
    refine j_lald (pc' := 97) (hp_e rfl) (inR_in g7) rfl dX9_ways_96 ?_
    refine j_ladd (pc' := 98) rfl dX9_ways_97 ?_
    refine j_lstore (pc' := 100) (lt_b rfl) rfl rfl dX9_ways_98 ?_
    refine j_aload_n (pc' := 101) rfl rfl dX9_ways_100 ?_
    refine j_getf (pc' := 104) fg_RX9_100 (hp_e rfl) rfl rfl dX9_ways_101 ?_
    refine j_iload (pc' := 106) rfl rfl dX9_ways_104 ?_
    obtain ⟨g8, hk⟩ := of_ite hk
    refine j_iald (pc' := 107) (hp_e rfl) (inR_in g8) rfl dX9_ways_106 ?_
    refine j_iconst (pc' := 108) (v := 1) rfl rfl dX9_ways_107 ?_
    refine j_iadd (pc' := 109) rfl dX9_ways_108 ?_
    refine j_istore (pc' := 111) (lt_b rfl) rfl rfl dX9_ways_109 ?_
    refine j_aload_n (pc' := 112) rfl rfl dX9_ways_111 ?_
    refine j_getf (pc' := 115) fg_RX9_97 (hp_e rfl) rfl rfl dX9_ways_112 ?_
    refine j_iload (pc' := 117) rfl rfl dX9_ways_115 ?_
    obtain ⟨g9, hk⟩ := of_ite hk
    refine j_lald (pc' := 118) (hp_e rfl) (inR_in g9) rfl dX9_ways_117 ?_
    refine j_ldc2 (pc' := 121) (v := (-1)) (gd_of (i := 1027) (by decide +kernel) rfl) rfl dX9_ways_118 ?_
    refine j_lcmp (pc' := 122) rfl dX9_ways_121 ?_
    refine j_if_eq (pc' := 125) (tg := 166) rfl rfl dX9_ways_122 (fun c18 => ?_) (fun c18 => ?_)
    · have hk := (if_pos c18).symm.trans hk
      exact qM_ways_j166 hk hc hx0
    · have hk := (if_neg c18).symm.trans hk
      refine j_aload_n (pc' := 126) rfl rfl dX9_ways_125 ?_
      refine j_getf (pc' := 129) fg_RX9_97 (hp_e rfl) rfl rfl dX9_ways_126 ?_
      refine j_iload (pc' := 131) rfl rfl dX9_ways_129 ?_
      obtain ⟨g12, hk⟩ := of_ite hk
      refine j_lald (pc' := 132) (hp_e rfl) (inR_in g12) rfl dX9_ways_131 ?_
      refine j_lload (pc' := 134) rfl rfl dX9_ways_132 ?_
      refine j_lcmp (pc' := 135) rfl dX9_ways_134 ?_
      refine j_if_lt (pc' := 138) (tg := 184) rfl rfl dX9_ways_135 (fun c17 => ?_) (fun c17 => ?_)
      · have hk := (if_pos c17).symm.trans hk
        refine j_iinc (pc' := 187) (v := x5 + 1) rfl rfl (lt_b rfl) rfl rfl dX9_ways_184 ?_
        refine j_goto (tg := 38) rfl dX9_ways_187 ?_
        obtain rfl := Option.some.inj hk
        exact hc _ _ rfl _ _ _
      · have hk := (if_neg c17).symm.trans hk
        refine j_aload_n (pc' := 139) rfl rfl dX9_ways_138 ?_
        refine j_getf (pc' := 142) fg_RX9_97 (hp_e rfl) rfl rfl dX9_ways_139 ?_
        refine j_iload (pc' := 144) rfl rfl dX9_ways_142 ?_
        obtain ⟨g13, hk⟩ := of_ite hk
        refine j_lald (pc' := 145) (hp_e rfl) (inR_in g13) rfl dX9_ways_144 ?_
        refine j_lload (pc' := 147) rfl rfl dX9_ways_145 ?_
        refine j_lcmp (pc' := 148) rfl dX9_ways_147 ?_
        refine j_if_ne (pc' := 151) (tg := 166) rfl rfl dX9_ways_148 (fun c16 => ?_) (fun c16 => ?_)
        · have hk := (if_neg c16).symm.trans hk
          exact qM_ways_j166 hk hc hx0
        · have hk := (if_pos c16).symm.trans hk
          refine j_aload_n (pc' := 152) rfl rfl dX9_ways_151 ?_
          refine j_getf (pc' := 155) fg_RX9_100 (hp_e rfl) rfl rfl dX9_ways_152 ?_
          refine j_iload (pc' := 157) rfl rfl dX9_ways_155 ?_
          obtain ⟨g14, hk⟩ := of_ite hk
          refine j_iald (pc' := 158) (hp_e rfl) (inR_in g14) rfl dX9_ways_157 ?_
          refine j_iload (pc' := 160) rfl rfl dX9_ways_158 ?_
          refine j_ic_gt (pc' := 163) (tg := 166) rfl rfl dX9_ways_160 (fun c15 => ?_) (fun c15 => ?_)
          · have hk := (if_pos c15).symm.trans hk
            exact qM_ways_j166 hk hc hx0
          · have hk := (if_neg c15).symm.trans hk
            refine j_goto (tg := 184) rfl dX9_ways_163 ?_
            refine j_iinc (pc' := 187) (v := x5 + 1) rfl rfl (lt_b rfl) rfl rfl dX9_ways_184 ?_
            refine j_goto (tg := 38) rfl dX9_ways_187 ?_
            obtain rfl := Option.some.inj hk
            exact hc _ _ rfl _ _ _
  · have hk := (if_pos c19).symm.trans hk
    refine j_goto (tg := 184) rfl dX9_ways_85 ?_
    refine j_iinc (pc' := 187) (v := x5 + 1) rfl rfl (lt_b rfl) rfl rfl dX9_ways_184 ?_
    refine j_goto (tg := 38) rfl dX9_ways_187 ?_
    obtain rfl := Option.some.inj hk
    exact hc _ _ rfl _ _ _
theorem qM_ways_s38 {σ : Mem} {x1 : Int32} {x2 : Int32} {x3 : Int32} {x4 : Int32} {x5 : Int32} {o6 : Option AV} {o7 : Option AV} {o8 : Option AV} {out : (Int32 × Mem) ⊕ (Mem)} (hk : kM_ways_s38 x1 x2 x3 x4 (x5, σ) = some out) (hc : ∀ (z5 : Int32) (ς : Mem), out = .inl (z5, ς) → ∀ (o6 o7 o8 : Option AV), J l D dA H0 YM_ways h0 Po 0 0 (hp ς) 38 [some (vR (some (30, 0))), some (vI x1), some (vI x2), some (vI x3), some (vI x4), some (vI z5), o6, o7, o8] []) (hx0 : ∀ (ς : Mem), out = .inr ς → ∀ (o5 o6 o7 o8 : Option AV), J l D dA H0 YM_ways h0 Po 0 0 (hp ς) 190 [some (vR (some (30, 0))), some (vI x1), some (vI x2), some (vI x3), some (vI x4), o5, o6, o7, o8] []) : J l D dA H0 YM_ways h0 Po 0 0 (hp σ) 38 [some (vR (some (30, 0))), some (vI x1), some (vI x2), some (vI x3), some (vI x4), some (vI x5), o6, o7, o8] [] := by
  unfold kM_ways_s38 at hk
  refine j_iload (pc' := 40) rfl rfl dX9_ways_38 ?_
  refine j_iload (pc' := 42) rfl rfl dX9_ways_40 ?_
  refine j_ic_ge (pc' := 45) (tg := 190) rfl rfl dX9_ways_42 (fun c21 => ?_) (fun c21 => ?_)
  · have hk := (if_pos c21).symm.trans hk
    obtain rfl := Option.some.inj hk
    exact hx0 _ rfl _ _ _ _
  · have hk := (if_neg c21).symm.trans hk
    refine j_aload_n (pc' := 46) rfl rfl dX9_ways_45 ?_
    refine j_getf (pc' := 49) fg_RX9_97 (hp_e rfl) rfl rfl dX9_ways_46 ?_
    refine j_iload (pc' := 51) rfl rfl dX9_ways_49 ?_
    obtain ⟨g4, hk⟩ := of_ite hk
    refine j_lald (pc' := 52) (hp_e rfl) (inR_in g4) rfl dX9_ways_51 ?_
    refine j_ldc2 (pc' := 55) (v := (-1)) (gd_of (i := 1027) (by decide +kernel) rfl) rfl dX9_ways_52 ?_
    refine j_lcmp (pc' := 56) rfl dX9_ways_55 ?_
    refine j_if_ne (pc' := 59) (tg := 65) rfl rfl dX9_ways_56 (fun c20 => ?_) (fun c20 => ?_)
    · have hk := (if_neg c20).symm.trans hk
      refine j_aload_n (pc' := 66) rfl rfl dX9_ways_65 ?_
      refine j_iload_n (pc' := 67) rfl rfl dX9_ways_66 ?_
      refine j_iload (pc' := 69) rfl rfl dX9_ways_67 ?_
      refine j_iload (pc' := 71) rfl rfl dX9_ways_69 ?_
      obtain ⟨⟨r5, σ6⟩, hx, hk⟩ := of_bind hk
      refine j_cv1 (pc' := 74) (LM_costOf hx) cv_RX9_171 ⟨le_b rfl, le_b rfl⟩ (hp_e rfl) rfl rfl (le_b rfl) ⟨rfl, rfl⟩ ⟨le_b rfl, le_b rfl⟩ rfl rfl dX9_ways_71 ?_
      exact qM_ways_j74 hk hc hx0
    · have hk := (if_pos c20).symm.trans hk
      refine j_ldc2 (pc' := 62) (v := (-1)) (gd_of (i := 1027) (by decide +kernel) rfl) rfl dX9_ways_59 ?_
      refine j_goto (tg := 74) rfl dX9_ways_62 ?_
      exact qM_ways_j74 hk hc hx0
theorem lM_ways_s38 {x1 : Int32} {x2 : Int32} {x3 : Int32} {x4 : Int32} : ∀ (n : Nat) (x5 : Int32) (σ : Mem) (e : (Mem)), loopF n (kM_ways_s38 x1 x2 x3 x4) (x5, σ) = some e → (∀ (ς : Mem), e = ς → ∀ (o5 o6 o7 o8 : Option AV), J l D dA H0 YM_ways h0 Po 0 0 (hp ς) 190 [some (vR (some (30, 0))), some (vI x1), some (vI x2), some (vI x3), some (vI x4), o5, o6, o7, o8] []) → ∀ (o6 o7 o8 : Option AV), J l D dA H0 YM_ways h0 Po 0 0 (hp σ) 38 [some (vR (some (30, 0))), some (vI x1), some (vI x2), some (vI x3), some (vI x4), some (vI x5), o6, o7, o8] []
  | 0, x5, σ, e, he => by cases he
  | n + 1, x5, σ, e, he => by
    intro hx0 o6 o7 o8
    rcases loopF_succ he with ⟨s', h1, h2⟩ | h1
    · refine qM_ways_s38 h1 ?_ ?_
      · intro z5 ς ee
        cases ee
        exact lM_ways_s38 n z5 ς e h2 hx0
      · intro ς ee
        cases ee
    · refine qM_ways_s38 h1 ?_ ?_
      · intro z5 ς ee
        cases ee
      · intro ς ee
        exact hx0 ς (Sum.inr.inj ee)
theorem qM_ways_x190 {σ : Mem} {x1 : Int32} {x2 : Int32} {x3 : Int32} {x4 : Int32} {o5 : Option AV} {o6 : Option AV} {o7 : Option AV} {o8 : Option AV} {out : Int32 × Mem ⊕ (Mem)} (hk : kM_ways_x190 σ x1 x2 x3 x4 = some out) (hc : ∀ (z4 : Int32) (ς : Mem), out = .inl (z4, ς) → ∀ (o5 o6 o7 o8 : Option AV), J l D dA H0 YM_ways h0 Po 0 0 (hp ς) 19 [some (vR (some (30, 0))), some (vI x1), some (vI x2), some (vI x3), some (vI z4), o5, o6, o7, o8] []) (hx0 : ∀ (ς : Mem), out = .inr ς → ∀ (o0 o1 o2 o3 o4 o5 o6 o7 o8 : Option AV), J l D dA H0 YM_ways h0 Po 0 0 (hp ς) 196 [o0, o1, o2, o3, o4, o5, o6, o7, o8] []) : J l D dA H0 YM_ways h0 Po 0 0 (hp σ) 190 [some (vR (some (30, 0))), some (vI x1), some (vI x2), some (vI x3), some (vI x4), o5, o6, o7, o8] [] := by
  unfold kM_ways_x190 at hk
  refine j_iinc (pc' := 193) (v := x4 + 1) rfl rfl (lt_b rfl) rfl rfl dX9_ways_190 ?_
  refine j_goto (tg := 19) rfl dX9_ways_193 ?_
  obtain rfl := Option.some.inj hk
  exact hc _ _ rfl _ _ _ _
theorem qM_ways_s19 {σ : Mem} {x1 : Int32} {x2 : Int32} {x3 : Int32} {x4 : Int32} {o5 : Option AV} {o6 : Option AV} {o7 : Option AV} {o8 : Option AV} {out : (Int32 × Mem) ⊕ (Mem)} (hk : kM_ways_s19 x1 x2 x3 (x4, σ) = some out) (hc : ∀ (z4 : Int32) (ς : Mem), out = .inl (z4, ς) → ∀ (o5 o6 o7 o8 : Option AV), J l D dA H0 YM_ways h0 Po 0 0 (hp ς) 19 [some (vR (some (30, 0))), some (vI x1), some (vI x2), some (vI x3), some (vI z4), o5, o6, o7, o8] []) (hx0 : ∀ (ς : Mem), out = .inr ς → ∀ (o0 o1 o2 o3 o4 o5 o6 o7 o8 : Option AV), J l D dA H0 YM_ways h0 Po 0 0 (hp ς) 196 [o0, o1, o2, o3, o4, o5, o6, o7, o8] []) : J l D dA H0 YM_ways h0 Po 0 0 (hp σ) 19 [some (vR (some (30, 0))), some (vI x1), some (vI x2), some (vI x3), some (vI x4), o5, o6, o7, o8] [] := by
  unfold kM_ways_s19 at hk
  refine j_iload (pc' := 21) rfl rfl dX9_ways_19 ?_
  refine j_iload_n (pc' := 22) rfl rfl dX9_ways_21 ?_
  refine j_ic_gt (pc' := 25) (tg := 196) rfl rfl dX9_ways_22 (fun c22 => ?_) (fun c22 => ?_)
  · have hk := (if_pos c22).symm.trans hk
    obtain rfl := Option.some.inj hk
    exact hx0 _ rfl _ _ _ _ _ _ _ _ _
  · have hk := (if_neg c22).symm.trans hk
    refine j_aload_n (pc' := 26) rfl rfl dX9_ways_25 ?_
    refine j_getf (pc' := 29) fg_RX9_97 (hp_e rfl) rfl rfl dX9_ways_26 ?_
    refine j_iload (pc' := 31) rfl rfl dX9_ways_29 ?_
    refine j_ldc2 (pc' := 34) (v := (-1)) (gd_of (i := 1027) (by decide +kernel) rfl) rfl dX9_ways_31 ?_
    obtain ⟨g3, hk⟩ := of_ite hk
    refine j_sl (pc' := 35) (fun _ _ _ => rfl) (inR_in g3) rfl dX9_ways_34 ?_
    refine j_iload_n (pc' := 36) rfl rfl dX9_ways_35 ?_
    refine j_istore (pc' := 38) (lt_b rfl) rfl rfl dX9_ways_36 ?_
    obtain ⟨e, he, hk⟩ := of_bind hk
    refine lM_ways_s38 FU _ _ e he ?_ _ _ _
    · intro ς ee _ _ _ _
      subst ee
      exact qM_ways_x190 hk hc hx0
theorem lM_ways_s19 {x1 : Int32} {x2 : Int32} {x3 : Int32} : ∀ (n : Nat) (x4 : Int32) (σ : Mem) (e : (Mem)), loopF n (kM_ways_s19 x1 x2 x3) (x4, σ) = some e → (∀ (ς : Mem), e = ς → ∀ (o0 o1 o2 o3 o4 o5 o6 o7 o8 : Option AV), J l D dA H0 YM_ways h0 Po 0 0 (hp ς) 196 [o0, o1, o2, o3, o4, o5, o6, o7, o8] []) → ∀ (o5 o6 o7 o8 : Option AV), J l D dA H0 YM_ways h0 Po 0 0 (hp σ) 19 [some (vR (some (30, 0))), some (vI x1), some (vI x2), some (vI x3), some (vI x4), o5, o6, o7, o8] []
  | 0, x4, σ, e, he => by cases he
  | n + 1, x4, σ, e, he => by
    intro hx0 o5 o6 o7 o8
    rcases loopF_succ he with ⟨s', h1, h2⟩ | h1
    · refine qM_ways_s19 h1 ?_ ?_
      · intro z4 ς ee
        cases ee
        exact lM_ways_s19 n z4 ς e h2 hx0
      · intro ς ee
        cases ee
    · refine qM_ways_s19 h1 ?_ ?_
      · intro z4 ς ee
        cases ee
      · intro ς ee
        exact hx0 ς (Sum.inr.inj ee)
theorem qM_ways_x196 {σ : Mem} {o0 : Option AV} {o1 : Option AV} {o2 : Option AV} {o3 : Option AV} {o4 : Option AV} {o5 : Option AV} {o6 : Option AV} {o7 : Option AV} {o8 : Option AV} {res : Unit × Mem} (hk : kM_ways_x196 σ = some res) (hP : Po none (hp res.2)) : J l D dA H0 YM_ways h0 Po 0 0 (hp σ) 196 [o0, o1, o2, o3, o4, o5, o6, o7, o8] [] := by
  unfold kM_ways_x196 at hk
  obtain rfl := Option.some.inj hk
  exact j_ret rfl ⟨rfl, rfl⟩ dX9_ways_196 hP
theorem qM_ways {σ : Mem} {x1 : Int32} {x2 : Int32} {x3 : Int32} {o4 : Option AV} {o5 : Option AV} {o6 : Option AV} {o7 : Option AV} {o8 : Option AV} {res : Unit × Mem} (hk : kM_ways σ x1 x2 x3 = some res) (hP : Po none (hp res.2)) : J l D dA H0 YM_ways h0 Po 0 0 (hp σ) 0 [some (vR (some (30, 0))), some (vI x1), some (vI x2), some (vI x3), o4, o5, o6, o7, o8] [] := by
  unfold kM_ways at hk
  refine j_aload_n (pc' := 1) rfl rfl dX9_ways_0 ?_
  refine j_getf (pc' := 4) fg_RX9_97 (hp_e rfl) rfl rfl dX9_ways_1 ?_
  refine j_iload_n (pc' := 5) rfl rfl dX9_ways_4 ?_
  refine j_lconst (pc' := 6) (v := 0) rfl rfl dX9_ways_5 ?_
  obtain ⟨g1, hk⟩ := of_ite hk
  refine j_sl (pc' := 7) (fun _ _ _ => rfl) (inR_in g1) rfl dX9_ways_6 ?_
  refine j_aload_n (pc' := 8) rfl rfl dX9_ways_7 ?_
  refine j_getf (pc' := 11) fg_RX9_100 (hp_e rfl) rfl rfl dX9_ways_8 ?_
  refine j_iload_n (pc' := 12) rfl rfl dX9_ways_11 ?_
  refine j_iconst (pc' := 13) (v := 0) rfl rfl dX9_ways_12 ?_
  obtain ⟨g2, hk⟩ := of_ite hk
  refine j_si (pc' := 14) (fun _ _ _ => rfl) (inR_in g2) rfl dX9_ways_13 ?_
  refine j_iload_n (pc' := 15) rfl rfl dX9_ways_14 ?_
  refine j_iconst (pc' := 16) (v := 1) rfl rfl dX9_ways_15 ?_
  refine j_iadd (pc' := 17) rfl dX9_ways_16 ?_
  refine j_istore (pc' := 19) (lt_b rfl) rfl rfl dX9_ways_17 ?_
  obtain ⟨e, he, hk⟩ := of_bind hk
  refine lM_ways_s19 FU _ _ e he ?_ _ _ _ _
  · intro ς ee _ _ _ _ _ _ _ _ _
    subst ee
    exact qM_ways_x196 hk hP
theorem LM_ways {σ σ' : Mem} {x1 : Int32} {x2 : Int32} {x3 : Int32} {r : Unit} (hk : kM_ways σ x1 x2 x3 = some (r, σ')) : M l D dA H0 yX9_ways YM_ways [vR (some (30, 0)), vI x1, vI x2, vI x3] (hp σ) (fun x h' => x = none ∧ h' = hp σ') :=
  m_of (j := 5) (by decide) rfl (fun hh => by cases hh) ⟨fun _ _ => trivial, rfl⟩ (le_b rfl) (qM_ways hk ⟨rfl, rfl⟩)
theorem qM_isWish {σ : Mem} {x1 : Int32} {x2 : Int32} {x3 : Int32} {res : Int32 × Mem} (hk : kM_isWish σ x1 x2 x3 = some res) (hP : Po (some (vI res.1)) (hp res.2)) : J l D dA H0 YM_isWish h0 Po 0 0 (hp σ) 0 [some (vR (some (30, 0))), some (vI x1), some (vI x2), some (vI x3)] [] := by
  unfold kM_isWish at hk
  refine j_iload_n (pc' := 1) rfl rfl dX9_isWish_0 ?_
  refine j_if_lt (pc' := 4) (tg := 32) rfl rfl dX9_isWish_1 (fun c5 => ?_) (fun c5 => ?_)
  · have hk := (if_pos c5).symm.trans hk
    refine j_iconst (pc' := 33) (v := 0) rfl rfl dX9_isWish_32 ?_
    obtain rfl := Option.some.inj hk
    exact j_zret rfl rfl ⟨rfl, rfl⟩ dX9_isWish_33 hP
  · have hk := (if_neg c5).symm.trans hk
    refine j_iload_n (pc' := 5) rfl rfl dX9_isWish_4 ?_
    refine j_iconst (pc' := 6) (v := 5) rfl rfl dX9_isWish_5 ?_
    refine j_ic_ge (pc' := 9) (tg := 32) rfl rfl dX9_isWish_6 (fun c4 => ?_) (fun c4 => ?_)
    · have hk := (if_pos c4).symm.trans hk
      refine j_iconst (pc' := 33) (v := 0) rfl rfl dX9_isWish_32 ?_
      obtain rfl := Option.some.inj hk
      exact j_zret rfl rfl ⟨rfl, rfl⟩ dX9_isWish_33 hP
    · have hk := (if_neg c4).symm.trans hk
      refine j_iload_n (pc' := 10) rfl rfl dX9_isWish_9 ?_
      refine j_aload_n (pc' := 11) rfl rfl dX9_isWish_10 ?_
      refine j_getf (pc' := 14) fg_RX9_158 (hp_e rfl) rfl rfl dX9_isWish_11 ?_
      refine j_ic_lt (pc' := 17) (tg := 32) rfl rfl dX9_isWish_14 (fun c3 => ?_) (fun c3 => ?_)
      · have hk := (if_pos c3).symm.trans hk
        refine j_iconst (pc' := 33) (v := 0) rfl rfl dX9_isWish_32 ?_
        obtain rfl := Option.some.inj hk
        exact j_zret rfl rfl ⟨rfl, rfl⟩ dX9_isWish_33 hP
      · have hk := (if_neg c3).symm.trans hk
        refine j_iload_n (pc' := 18) rfl rfl dX9_isWish_17 ?_
        refine j_iload_n (pc' := 19) rfl rfl dX9_isWish_18 ?_
        refine j_ic_le (pc' := 22) (tg := 32) rfl rfl dX9_isWish_19 (fun c2 => ?_) (fun c2 => ?_)
        · have hk := (if_pos c2).symm.trans hk
          refine j_iconst (pc' := 33) (v := 0) rfl rfl dX9_isWish_32 ?_
          obtain rfl := Option.some.inj hk
          exact j_zret rfl rfl ⟨rfl, rfl⟩ dX9_isWish_33 hP
        · have hk := (if_neg c2).symm.trans hk
          refine j_iload_n (pc' := 23) rfl rfl dX9_isWish_22 ?_
          refine j_bipush (pc' := 25) (v := 60) rfl rfl dX9_isWish_23 ?_
          refine j_ic_gt (pc' := 28) (tg := 32) rfl rfl dX9_isWish_25 (fun c1 => ?_) (fun c1 => ?_)
          · have hk := (if_pos c1).symm.trans hk
            refine j_iconst (pc' := 33) (v := 0) rfl rfl dX9_isWish_32 ?_
            obtain rfl := Option.some.inj hk
            exact j_zret rfl rfl ⟨rfl, rfl⟩ dX9_isWish_33 hP
          · have hk := (if_neg c1).symm.trans hk
            refine j_iconst (pc' := 29) (v := 1) rfl rfl dX9_isWish_28 ?_
            refine j_goto (tg := 33) rfl dX9_isWish_29 ?_
            obtain rfl := Option.some.inj hk
            exact j_zret rfl rfl ⟨rfl, rfl⟩ dX9_isWish_33 hP
theorem LM_isWish {σ σ' : Mem} {x1 : Int32} {x2 : Int32} {x3 : Int32} {r : Int32} (hk : kM_isWish σ x1 x2 x3 = some (r, σ')) : M l D dA H0 yX9_isWish YM_isWish [vR (some (30, 0)), vI x1, vI x2, vI x3] (hp σ) (fun x h' => x = some (vI r) ∧ h' = hp σ') :=
  m_of (j := 0) (by decide) rfl (fun hh => by cases hh) ⟨fun _ _ => trivial, rfl⟩ (le_b rfl) (qM_isWish hk ⟨rfl, rfl⟩)
theorem qM_isParty_j25 {σ : Mem} {y0 : Int32} {y1 : Int32} {o0 : Option AV} {o1 : Option AV} {res : Int32 × Mem} (hk : kM_isParty_j25 σ y0 y1 = some res) (hP : Po (some (vI res.1)) (hp res.2)) : J l D dA H0 YM_isParty h0 Po 0 0 (hp σ) 25 [o0, o1] [vI y0, vI y1] := by
  unfold kM_isParty_j25 at hk
  refine j_ic_gt (pc' := 28) (tg := 32) rfl rfl dX9_isParty_25 (fun c1 => ?_) (fun c1 => ?_)
  · have hk := (if_pos c1).symm.trans hk
    refine j_iconst (pc' := 33) (v := 0) rfl rfl dX9_isParty_32 ?_
    obtain rfl := Option.some.inj hk
    exact j_zret rfl rfl ⟨rfl, rfl⟩ dX9_isParty_33 hP
  · have hk := (if_neg c1).symm.trans hk
    refine j_iconst (pc' := 29) (v := 1) rfl rfl dX9_isParty_28 ?_
    refine j_goto (tg := 33) rfl dX9_isParty_29 ?_
    obtain rfl := Option.some.inj hk
    exact j_zret rfl rfl ⟨rfl, rfl⟩ dX9_isParty_33 hP
theorem qM_isParty {σ : Mem} {x0 : Int32} {x1 : Int32} {res : Int32 × Mem} (hk : kM_isParty σ x0 x1 = some res) (hP : Po (some (vI res.1)) (hp res.2)) : J l D dA H0 YM_isParty h0 Po 0 0 (hp σ) 0 [some (vI x0), some (vI x1)] [] := by
  unfold kM_isParty at hk
  refine j_iload_n (pc' := 1) rfl rfl dX9_isParty_0 ?_
  refine j_iconst (pc' := 2) (v := 1) rfl rfl dX9_isParty_1 ?_
  refine j_ic_lt (pc' := 5) (tg := 32) rfl rfl dX9_isParty_2 (fun c4 => ?_) (fun c4 => ?_)
  · have hk := (if_pos c4).symm.trans hk
    refine j_iconst (pc' := 33) (v := 0) rfl rfl dX9_isParty_32 ?_
    obtain rfl := Option.some.inj hk
    exact j_zret rfl rfl ⟨rfl, rfl⟩ dX9_isParty_33 hP
  · have hk := (if_neg c4).symm.trans hk
    refine j_iload_n (pc' := 6) rfl rfl dX9_isParty_5 ?_
    refine j_iload_n (pc' := 7) rfl rfl dX9_isParty_6 ?_
    refine j_iconst (pc' := 8) (v := 2) rfl rfl dX9_isParty_7 ?_
    refine j_ic_ge (pc' := 11) (tg := 15) rfl rfl dX9_isParty_8 (fun c3 => ?_) (fun c3 => ?_)
    · have hk := (if_pos c3).symm.trans hk
      refine j_iload_n (pc' := 16) rfl rfl dX9_isParty_15 ?_
      refine j_iconst (pc' := 17) (v := 4) rfl rfl dX9_isParty_16 ?_
      refine j_ic_ne (pc' := 20) (tg := 24) rfl rfl dX9_isParty_17 (fun c2 => ?_) (fun c2 => ?_)
      · have hk := (if_neg c2).symm.trans hk
        refine j_iconst (pc' := 25) (v := 2) rfl rfl dX9_isParty_24 ?_
        exact qM_isParty_j25 hk hP
      · have hk := (if_pos c2).symm.trans hk
        refine j_iconst (pc' := 21) (v := 4) rfl rfl dX9_isParty_20 ?_
        refine j_goto (tg := 25) rfl dX9_isParty_21 ?_
        exact qM_isParty_j25 hk hP
    · have hk := (if_neg c3).symm.trans hk
      refine j_iconst (pc' := 12) (v := 1) rfl rfl dX9_isParty_11 ?_
      refine j_goto (tg := 25) rfl dX9_isParty_12 ?_
      exact qM_isParty_j25 hk hP
theorem LM_isParty {σ σ' : Mem} {x0 : Int32} {x1 : Int32} {r : Int32} (hk : kM_isParty σ x0 x1 = some (r, σ')) : M l D dA H0 yX9_isParty YM_isParty [vI x0, vI x1] (hp σ) (fun x h' => x = some (vI r) ∧ h' = hp σ') :=
  m_of (j := 0) (by decide) rfl (fun hh => by cases hh) ⟨fun _ _ => trivial, rfl⟩ (le_b rfl) (qM_isParty hk ⟨rfl, rfl⟩)
theorem qM_why_s48 {σ : Mem} {x1 : Int32} {x4 : Int32} {x5 : Int32} {x6 : Int32} {o2 : Option AV} {o3 : Option AV} {out : (Int32 × Mem) ⊕ ((Mem) ⊕ (Mem))} (hk : kM_why_s48 x1 x4 x5 (x6, σ) = some out) (hc : ∀ (z6 : Int32) (ς : Mem), out = .inl (z6, ς) → ∀ (o2 o3 : Option AV), J l D dA H0 YM_why h0 Po 0 0 (hp ς) 48 [some (vR (some (30, 0))), some (vI x1), o2, o3, some (vI x4), some (vI x5), some (vI z6)] []) (hx0 : ∀ (ς : Mem), out = .inr (.inl ς) → ∀ (o0 o1 o2 o3 o4 o5 o6 : Option AV), J l D dA H0 YM_why h0 Po 0 0 (hp ς) 71 [o0, o1, o2, o3, o4, o5, o6] []) (hx1 : ∀ (ς : Mem), out = .inr (.inr ς) → ∀ (o0 o1 o2 o3 o4 o5 o6 : Option AV), J l D dA H0 YM_why h0 Po 0 0 (hp ς) 79 [o0, o1, o2, o3, o4, o5, o6] []) : J l D dA H0 YM_why h0 Po 0 0 (hp σ) 48 [some (vR (some (30, 0))), some (vI x1), o2, o3, some (vI x4), some (vI x5), some (vI x6)] [] := by
  unfold kM_why_s48 at hk
  refine j_iload (pc' := 50) rfl rfl dX9_why_48 ?_
  refine j_iload (pc' := 52) rfl rfl dX9_why_50 ?_
  refine j_ic_ge (pc' := 55) (tg := 79) rfl rfl dX9_why_52 (fun c11 => ?_) (fun c11 => ?_)
  · have hk := (if_pos c11).symm.trans hk
    obtain rfl := Option.some.inj hk
    exact hx1 _ rfl _ _ _ _ _ _ _
  · have hk := (if_neg c11).symm.trans hk
    refine j_aload_n (pc' := 56) rfl rfl dX9_why_55 ?_
    refine j_iload (pc' := 58) rfl rfl dX9_why_56 ?_
    refine j_iload_n (pc' := 59) rfl rfl dX9_why_58 ?_
    refine j_iload (pc' := 61) rfl rfl dX9_why_59 ?_
    obtain ⟨⟨r8, σ9⟩, hx, hk⟩ := of_bind hk
    refine j_cv1 (pc' := 64) (LM_lack hx) cv_RX9_186 ⟨le_b rfl, le_b rfl⟩ (hp_e rfl) rfl rfl (le_b rfl) ⟨rfl, rfl⟩ ⟨le_b rfl, le_b rfl⟩ rfl rfl dX9_why_61 ?_
    refine j_aload_n (pc' := 65) rfl rfl dX9_why_64 ?_
    refine j_getf (pc' := 68) fg_RX9_190 (hp_e rfl) rfl rfl dX9_why_65 ?_
    refine j_ic_le (pc' := 71) (tg := 73) rfl rfl dX9_why_68 (fun c10 => ?_) (fun c10 => ?_)
    · have hk := (if_pos c10).symm.trans hk
      refine j_iinc (pc' := 76) (v := x6 + 1) rfl rfl (lt_b rfl) rfl rfl dX9_why_73 ?_
      refine j_goto (tg := 48) rfl dX9_why_76 ?_
      obtain rfl := Option.some.inj hk
      exact hc _ _ rfl _ _
    · have hk := (if_neg c10).symm.trans hk
      obtain rfl := Option.some.inj hk
      exact hx0 _ rfl _ _ _ _ _ _ _
theorem lM_why_s48 {x1 : Int32} {x4 : Int32} {x5 : Int32} : ∀ (n : Nat) (x6 : Int32) (σ : Mem) (e : ((Mem) ⊕ (Mem))), loopF n (kM_why_s48 x1 x4 x5) (x6, σ) = some e → (∀ (ς : Mem), e = (.inl ς) → ∀ (o0 o1 o2 o3 o4 o5 o6 : Option AV), J l D dA H0 YM_why h0 Po 0 0 (hp ς) 71 [o0, o1, o2, o3, o4, o5, o6] []) → (∀ (ς : Mem), e = (.inr ς) → ∀ (o0 o1 o2 o3 o4 o5 o6 : Option AV), J l D dA H0 YM_why h0 Po 0 0 (hp ς) 79 [o0, o1, o2, o3, o4, o5, o6] []) → ∀ (o2 o3 : Option AV), J l D dA H0 YM_why h0 Po 0 0 (hp σ) 48 [some (vR (some (30, 0))), some (vI x1), o2, o3, some (vI x4), some (vI x5), some (vI x6)] []
  | 0, x6, σ, e, he => by cases he
  | n + 1, x6, σ, e, he => by
    intro hx0 hx1 o2 o3
    rcases loopF_succ he with ⟨s', h1, h2⟩ | h1
    · refine qM_why_s48 h1 ?_ ?_ ?_
      · intro z6 ς ee
        cases ee
        exact lM_why_s48 n z6 ς e h2 hx0 hx1
      · intro ς ee
        cases ee
      · intro ς ee
        cases ee
    · refine qM_why_s48 h1 ?_ ?_ ?_
      · intro z6 ς ee
        cases ee
      · intro ς ee
        exact hx0 ς (Sum.inr.inj ee)
      · intro ς ee
        exact hx1 ς (Sum.inr.inj ee)
theorem qM_why_x71 {σ : Mem} {o0 : Option AV} {o1 : Option AV} {o2 : Option AV} {o3 : Option AV} {o4 : Option AV} {o5 : Option AV} {o6 : Option AV} {res : Int32 × Mem} (hk : kM_why_x71 σ = some res) (hP : Po (some (vI res.1)) (hp res.2)) : J l D dA H0 YM_why h0 Po 0 0 (hp σ) 71 [o0, o1, o2, o3, o4, o5, o6] [] := by
  unfold kM_why_x71 at hk
  refine j_iconst (pc' := 72) (v := 3) rfl rfl dX9_why_71 ?_
  obtain rfl := Option.some.inj hk
  exact j_iret rfl ⟨rfl, rfl⟩ dX9_why_72 hP
theorem qM_why_x79 {σ : Mem} {o0 : Option AV} {o1 : Option AV} {o2 : Option AV} {o3 : Option AV} {o4 : Option AV} {o5 : Option AV} {o6 : Option AV} {res : Int32 × Mem} (hk : kM_why_x79 σ = some res) (hP : Po (some (vI res.1)) (hp res.2)) : J l D dA H0 YM_why h0 Po 0 0 (hp σ) 79 [o0, o1, o2, o3, o4, o5, o6] [] := by
  unfold kM_why_x79 at hk
  refine j_iconst (pc' := 80) (v := 0) rfl rfl dX9_why_79 ?_
  obtain rfl := Option.some.inj hk
  exact j_iret rfl ⟨rfl, rfl⟩ dX9_why_80 hP
theorem qM_why {σ : Mem} {x1 : Int32} {x2 : Int32} {x3 : Int32} {x4 : Int32} {x5 : Int32} {o6 : Option AV} {res : Int32 × Mem} (hk : kM_why σ x1 x2 x3 x4 x5 = some res) (hP : Po (some (vI res.1)) (hp res.2)) : J l D dA H0 YM_why h0 Po 0 0 (hp σ) 0 [some (vR (some (30, 0))), some (vI x1), some (vI x2), some (vI x3), some (vI x4), some (vI x5), o6] [] := by
  unfold kM_why at hk
  refine j_aload_n (pc' := 1) rfl rfl dX9_why_0 ?_
  refine j_iload_n (pc' := 2) rfl rfl dX9_why_1 ?_
  refine j_iload_n (pc' := 3) rfl rfl dX9_why_2 ?_
  refine j_iload (pc' := 5) rfl rfl dX9_why_3 ?_
  obtain ⟨⟨r1, σ2⟩, hx, hk⟩ := of_bind hk
  refine j_cv1 (pc' := 8) (LM_isWish hx) cv_RX9_175 ⟨le_b rfl, le_b rfl⟩ (hp_e rfl) rfl rfl (le_b rfl) ⟨rfl, rfl⟩ ⟨le_b rfl, le_b rfl⟩ rfl rfl dX9_why_5 ?_
  refine j_if_eq (pc' := 11) (tg := 19) rfl rfl dX9_why_8 (fun c14 => ?_) (fun c14 => ?_)
  · have hk := (if_pos c14).symm.trans hk
    refine j_iconst (pc' := 20) (v := 1) rfl rfl dX9_why_19 ?_
    obtain rfl := Option.some.inj hk
    exact j_iret rfl ⟨rfl, rfl⟩ dX9_why_20 hP
  · have hk := (if_neg c14).symm.trans hk
    refine j_iload_n (pc' := 12) rfl rfl dX9_why_11 ?_
    refine j_iload_n (pc' := 13) rfl rfl dX9_why_12 ?_
    obtain ⟨⟨r3, σ4⟩, hx, hk⟩ := of_bind hk
    refine j_cs1 (pc' := 16) (LM_isParty hx) cs_RX9_179 ⟨le_b rfl, le_b rfl⟩ rfl (le_b rfl) ⟨rfl, rfl⟩ ⟨le_b rfl, le_b rfl⟩ rfl rfl dX9_why_13 ?_
    refine j_if_ne (pc' := 19) (tg := 21) rfl rfl dX9_why_16 (fun c13 => ?_) (fun c13 => ?_)
    · have hk := (if_neg c13).symm.trans hk
      refine j_aload_n (pc' := 22) rfl rfl dX9_why_21 ?_
      refine j_iload_n (pc' := 23) rfl rfl dX9_why_22 ?_
      refine j_iload_n (pc' := 24) rfl rfl dX9_why_23 ?_
      refine j_iload (pc' := 26) rfl rfl dX9_why_24 ?_
      obtain ⟨⟨_, σ6⟩, hx, hk⟩ := of_bind hk
      refine j_cv0 (pc' := 29) (LM_ways hx) cv_RX9_182 ⟨le_b rfl, le_b rfl⟩ (hp_e rfl) rfl rfl (le_b rfl) ⟨rfl, rfl⟩ ⟨le_b rfl, le_b rfl⟩ rfl rfl dX9_why_26 ?_
      refine j_aload_n (pc' := 30) rfl rfl dX9_why_29 ?_
      refine j_getf (pc' := 33) fg_RX9_97 (hp_e rfl) rfl rfl dX9_why_30 ?_
      refine j_iload (pc' := 35) rfl rfl dX9_why_33 ?_
      obtain ⟨g7, hk⟩ := of_ite hk
      refine j_lald (pc' := 36) (hp_e rfl) (inR_in g7) rfl dX9_why_35 ?_
      refine j_ldc2 (pc' := 39) (v := (-1)) (gd_of (i := 1027) (by decide +kernel) rfl) rfl dX9_why_36 ?_
      refine j_lcmp (pc' := 40) rfl dX9_why_39 ?_
      refine j_if_ne (pc' := 43) (tg := 45) rfl rfl dX9_why_40 (fun c12 => ?_) (fun c12 => ?_)
      · have hk := (if_neg c12).symm.trans hk
        refine j_iload_n (pc' := 46) rfl rfl dX9_why_45 ?_
        refine j_istore (pc' := 48) (lt_b rfl) rfl rfl dX9_why_46 ?_
        obtain ⟨e, he, hk⟩ := of_bind hk
        refine lM_why_s48 FU _ _ e he ?_ ?_ _ _
        · intro ς ee _ _ _ _ _ _ _
          subst ee
          exact qM_why_x71 hk hP
        · intro ς ee _ _ _ _ _ _ _
          subst ee
          exact qM_why_x79 hk hP
      · have hk := (if_pos c12).symm.trans hk
        refine j_iconst (pc' := 44) (v := 2) rfl rfl dX9_why_43 ?_
        obtain rfl := Option.some.inj hk
        exact j_iret rfl ⟨rfl, rfl⟩ dX9_why_44 hP
    · have hk := (if_pos c13).symm.trans hk
      refine j_iconst (pc' := 20) (v := 1) rfl rfl dX9_why_19 ?_
      obtain rfl := Option.some.inj hk
      exact j_iret rfl ⟨rfl, rfl⟩ dX9_why_20 hP
theorem LM_why {σ σ' : Mem} {x1 : Int32} {x2 : Int32} {x3 : Int32} {x4 : Int32} {x5 : Int32} {r : Int32} (hk : kM_why σ x1 x2 x3 x4 x5 = some (r, σ')) : M l D dA H0 yX9_why YM_why [vR (some (30, 0)), vI x1, vI x2, vI x3, vI x4, vI x5] (hp σ) (fun x h' => x = some (vI r) ∧ h' = hp σ') :=
  m_of (j := 1) (by decide) rfl (fun hh => by cases hh) ⟨fun _ _ => trivial, rfl⟩ (le_b rfl) (qM_why hk ⟨rfl, rfl⟩)
theorem qM_can {σ : Mem} {x1 : Int32} {x2 : Int32} {x3 : Int32} {x4 : Int32} {o5 : Option AV} {res : Int32 × Mem} (hk : kM_can σ x1 x2 x3 x4 = some res) (hP : Po (some (vI res.1)) (hp res.2)) : J l D dA H0 YM_can h0 Po 0 0 (hp σ) 0 [some (vR (some (30, 0))), some (vI x1), some (vI x2), some (vI x3), some (vI x4), o5] [] := by
  unfold kM_can at hk
  refine j_aload_n (pc' := 1) rfl rfl dX9_can_0 ?_
  refine j_iconst (pc' := 2) (v := 0) rfl rfl dX9_can_1 ?_
  refine j_pi (pc' := 5) (ty := .int) fg_RX9_1 ttX9 rfl rfl ⟨rfl, rfl⟩ rfl (lt_b rfl) rfl rfl dX9_can_2 ?_
  refine j_aload_n (pc' := 6) rfl rfl dX9_can_5 ?_
  refine j_iload_n (pc' := 7) rfl rfl dX9_can_6 ?_
  refine j_iload_n (pc' := 8) rfl rfl dX9_can_7 ?_
  refine j_iload_n (pc' := 9) rfl rfl dX9_can_8 ?_
  refine j_iload (pc' := 11) rfl rfl dX9_can_9 ?_
  refine j_iconst (pc' := 12) (v := (-1)) rfl rfl dX9_can_11 ?_
  obtain ⟨⟨r1, σ2⟩, hx, hk⟩ := of_bind hk
  refine j_cv1 (pc' := 15) (LM_why hx) cv_RX9_193 ⟨le_b rfl, le_b rfl⟩ (hp_e rfl) rfl rfl (le_b rfl) ⟨rfl, rfl⟩ ⟨le_b rfl, le_b rfl⟩ rfl rfl dX9_can_12 ?_
  refine j_istore (pc' := 17) (lt_b rfl) rfl rfl dX9_can_15 ?_
  refine j_iload (pc' := 19) rfl rfl dX9_can_17 ?_
  refine j_if_le (pc' := 22) (tg := 27) rfl rfl dX9_can_19 (fun c4 => ?_) (fun c4 => ?_)
  · have hk := (if_pos c4).symm.trans hk
    refine j_aload_n (pc' := 28) rfl rfl dX9_can_27 ?_
    refine j_getf (pc' := 31) fg_RX9_117 (hp_e rfl) rfl rfl dX9_can_28 ?_
    refine j_bipush (pc' := 33) (v := 40) rfl rfl dX9_can_31 ?_
    refine j_ic_ne (pc' := 36) (tg := 40) rfl rfl dX9_can_33 (fun c3 => ?_) (fun c3 => ?_)
    · have hk := (if_neg c3).symm.trans hk
      refine j_iconst (pc' := 41) (v := 0) rfl rfl dX9_can_40 ?_
      obtain rfl := Option.some.inj hk
      exact j_iret rfl ⟨rfl, rfl⟩ dX9_can_41 hP
    · have hk := (if_pos c3).symm.trans hk
      refine j_iconst (pc' := 37) (v := 4) rfl rfl dX9_can_36 ?_
      refine j_goto (tg := 41) rfl dX9_can_37 ?_
      obtain rfl := Option.some.inj hk
      exact j_iret rfl ⟨rfl, rfl⟩ dX9_can_41 hP
  · have hk := (if_neg c4).symm.trans hk
    refine j_iload (pc' := 24) rfl rfl dX9_can_22 ?_
    refine j_goto (tg := 41) rfl dX9_can_24 ?_
    obtain rfl := Option.some.inj hk
    exact j_iret rfl ⟨rfl, rfl⟩ dX9_can_41 hP
theorem LM_can {σ σ' : Mem} {x1 : Int32} {x2 : Int32} {x3 : Int32} {x4 : Int32} {r : Int32} (hk : kM_can σ x1 x2 x3 x4 = some (r, σ')) : M l D dA H0 yX9_can YM_can [vR (some (30, 0)), vI x1, vI x2, vI x3, vI x4] (hp σ) (fun x h' => x = some (vI r) ∧ h' = hp σ') :=
  m_of (j := 1) (by decide) rfl (fun hh => by cases hh) ⟨fun _ _ => trivial, rfl⟩ (le_b rfl) (qM_can hk ⟨rfl, rfl⟩)
theorem qM_promise_s153 {σ : Mem} {x7 : Int32} {x8 : Int32} {o1 : Option AV} {o2 : Option AV} {o3 : Option AV} {o4 : Option AV} {o5 : Option AV} {o6 : Option AV} {out : (Int32 × Mem) ⊕ (Mem)} (hk : kM_promise_s153 x7 (x8, σ) = some out) (hc : ∀ (z8 : Int32) (ς : Mem), out = .inl (z8, ς) → ∀ (o1 o2 o3 o4 o5 o6 : Option AV), J l D dA H0 YM_promise h0 Po 0 0 (hp ς) 153 [some (vR (some (30, 0))), o1, o2, o3, o4, o5, o6, some (vI x7), some (vI z8)] []) (hx0 : ∀ (ς : Mem), out = .inr ς → ∀ (o0 o1 o2 o3 o4 o5 o6 o8 : Option AV), J l D dA H0 YM_promise h0 Po 0 0 (hp ς) 180 [o0, o1, o2, o3, o4, o5, o6, some (vI x7), o8] []) : J l D dA H0 YM_promise h0 Po 0 0 (hp σ) 153 [some (vR (some (30, 0))), o1, o2, o3, o4, o5, o6, some (vI x7), some (vI x8)] [] := by
  unfold kM_promise_s153 at hk
  refine j_iload (pc' := 155) rfl rfl dX9_promise_153 ?_
  refine j_bipush (pc' := 157) (v := 60) rfl rfl dX9_promise_155 ?_
  refine j_ic_ge (pc' := 160) (tg := 180) rfl rfl dX9_promise_157 (fun c14 => ?_) (fun c14 => ?_)
  · have hk := (if_pos c14).symm.trans hk
    obtain rfl := Option.some.inj hk
    exact hx0 _ rfl _ _ _ _ _ _ _ _
  · have hk := (if_neg c14).symm.trans hk
    refine j_aload_n (pc' := 161) rfl rfl dX9_promise_160 ?_
    refine j_getf (pc' := 164) fg_RX9_64 (hp_e rfl) rfl rfl dX9_promise_161 ?_
    refine j_bipush (pc' := 166) (v := 60) rfl rfl dX9_promise_164 ?_
    refine j_iload (pc' := 168) rfl rfl dX9_promise_166 ?_
    refine j_imul (pc' := 169) rfl dX9_promise_168 ?_
    refine j_iload (pc' := 171) rfl rfl dX9_promise_169 ?_
    refine j_iadd (pc' := 172) rfl dX9_promise_171 ?_
    refine j_iconst (pc' := 173) (v := (-1)) rfl rfl dX9_promise_172 ?_
    obtain ⟨g13, hk⟩ := of_ite hk
    refine j_si (pc' := 174) (fun _ _ _ => rfl) (inR_in g13) rfl dX9_promise_173 ?_
    refine j_iinc (pc' := 177) (v := x8 + 1) rfl rfl (lt_b rfl) rfl rfl dX9_promise_174 ?_
    refine j_goto (tg := 153) rfl dX9_promise_177 ?_
    obtain rfl := Option.some.inj hk
    exact hc _ _ rfl _ _ _ _ _ _
theorem lM_promise_s153 {x7 : Int32} : ∀ (n : Nat) (x8 : Int32) (σ : Mem) (e : (Mem)), loopF n (kM_promise_s153 x7) (x8, σ) = some e → (∀ (ς : Mem), e = ς → ∀ (o0 o1 o2 o3 o4 o5 o6 o8 : Option AV), J l D dA H0 YM_promise h0 Po 0 0 (hp ς) 180 [o0, o1, o2, o3, o4, o5, o6, some (vI x7), o8] []) → ∀ (o1 o2 o3 o4 o5 o6 : Option AV), J l D dA H0 YM_promise h0 Po 0 0 (hp σ) 153 [some (vR (some (30, 0))), o1, o2, o3, o4, o5, o6, some (vI x7), some (vI x8)] []
  | 0, x8, σ, e, he => by cases he
  | n + 1, x8, σ, e, he => by
    intro hx0 o1 o2 o3 o4 o5 o6
    rcases loopF_succ he with ⟨s', h1, h2⟩ | h1
    · refine qM_promise_s153 h1 ?_ ?_
      · intro z8 ς ee
        cases ee
        exact lM_promise_s153 n z8 ς e h2 hx0
      · intro ς ee
        cases ee
    · refine qM_promise_s153 h1 ?_ ?_
      · intro z8 ς ee
        cases ee
      · intro ς ee
        exact hx0 ς (Sum.inr.inj ee)
theorem qM_promise_x180 {σ : Mem} {x7 : Int32} {o0 : Option AV} {o1 : Option AV} {o2 : Option AV} {o3 : Option AV} {o4 : Option AV} {o5 : Option AV} {o6 : Option AV} {o8 : Option AV} {res : Int32 × Mem} (hk : kM_promise_x180 σ x7 = some res) (hP : Po (some (vI res.1)) (hp res.2)) : J l D dA H0 YM_promise h0 Po 0 0 (hp σ) 180 [o0, o1, o2, o3, o4, o5, o6, some (vI x7), o8] [] := by
  unfold kM_promise_x180 at hk
  refine j_iload (pc' := 182) rfl rfl dX9_promise_180 ?_
  obtain rfl := Option.some.inj hk
  exact j_iret rfl ⟨rfl, rfl⟩ dX9_promise_182 hP
theorem qM_promise_j77 {σ : Mem} {x1 : Int32} {x2 : Int32} {x3 : Int32} {x4 : Int32} {x5 : Int32} {x7 : Int32} {y0 : Int32} {y1 : Int32} {o6 : Option AV} {o8 : Option AV} {res : Int32 × Mem} (hk : kM_promise_j77 σ x1 x2 x3 x4 x5 x7 y0 y1 = some res) (hP : Po (some (vI res.1)) (hp res.2)) : J l D dA H0 YM_promise h0 Po 0 0 (hp σ) 77 [some (vR (some (30, 0))), some (vI x1), some (vI x2), some (vI x3), some (vI x4), some (vI x5), o6, some (vI x7), o8] [vI y0, vI y1, vR (some (40, 0))] := by
  unfold kM_promise_j77 at hk
  obtain ⟨g3, hk⟩ := of_ite hk
  refine j_si (pc' := 78) (fun _ _ _ => rfl) (inR_in g3) rfl dX9_promise_77 ?_
  refine j_aload_n (pc' := 79) rfl rfl dX9_promise_78 ?_
  refine j_getf (pc' := 82) fg_RX9_40 (hp_e rfl) rfl rfl dX9_promise_79 ?_
  refine j_iload (pc' := 84) rfl rfl dX9_promise_82 ?_
  refine j_iload_n (pc' := 85) rfl rfl dX9_promise_84 ?_
  obtain ⟨g4, hk⟩ := of_ite hk
  refine j_si (pc' := 86) (fun _ _ _ => rfl) (inR_in g4) rfl dX9_promise_85 ?_
  refine j_aload_n (pc' := 87) rfl rfl dX9_promise_86 ?_
  refine j_getf (pc' := 90) fg_RX9_43 (hp_e rfl) rfl rfl dX9_promise_87 ?_
  refine j_iload (pc' := 92) rfl rfl dX9_promise_90 ?_
  refine j_iload_n (pc' := 93) rfl rfl dX9_promise_92 ?_
  obtain ⟨g5, hk⟩ := of_ite hk
  refine j_si (pc' := 94) (fun _ _ _ => rfl) (inR_in g5) rfl dX9_promise_93 ?_
  refine j_aload_n (pc' := 95) rfl rfl dX9_promise_94 ?_
  refine j_getf (pc' := 98) fg_RX9_46 (hp_e rfl) rfl rfl dX9_promise_95 ?_
  refine j_iload (pc' := 100) rfl rfl dX9_promise_98 ?_
  refine j_iload_n (pc' := 101) rfl rfl dX9_promise_100 ?_
  obtain ⟨g6, hk⟩ := of_ite hk
  refine j_si (pc' := 102) (fun _ _ _ => rfl) (inR_in g6) rfl dX9_promise_101 ?_
  refine j_aload_n (pc' := 103) rfl rfl dX9_promise_102 ?_
  refine j_getf (pc' := 106) fg_RX9_49 (hp_e rfl) rfl rfl dX9_promise_103 ?_
  refine j_iload (pc' := 108) rfl rfl dX9_promise_106 ?_
  refine j_iload (pc' := 110) rfl rfl dX9_promise_108 ?_
  obtain ⟨g7, hk⟩ := of_ite hk
  refine j_si (pc' := 111) (fun _ _ _ => rfl) (inR_in g7) rfl dX9_promise_110 ?_
  refine j_aload_n (pc' := 112) rfl rfl dX9_promise_111 ?_
  refine j_getf (pc' := 115) fg_RX9_52 (hp_e rfl) rfl rfl dX9_promise_112 ?_
  refine j_iload (pc' := 117) rfl rfl dX9_promise_115 ?_
  refine j_iload (pc' := 119) rfl rfl dX9_promise_117 ?_
  obtain ⟨g8, hk⟩ := of_ite hk
  refine j_si (pc' := 120) (fun _ _ _ => rfl) (inR_in g8) rfl dX9_promise_119 ?_
  refine j_aload_n (pc' := 121) rfl rfl dX9_promise_120 ?_
  refine j_getf (pc' := 124) fg_RX9_61 (hp_e rfl) rfl rfl dX9_promise_121 ?_
  refine j_iload (pc' := 126) rfl rfl dX9_promise_124 ?_
  refine j_aload_n (pc' := 127) rfl rfl dX9_promise_126 ?_
  refine j_getf (pc' := 130) fg_RX9_97 (hp_e rfl) rfl rfl dX9_promise_127 ?_
  refine j_iload (pc' := 132) rfl rfl dX9_promise_130 ?_
  obtain ⟨g9, hk⟩ := of_ite hk
  refine j_lald (pc' := 133) (hp_e rfl) (inR_in g9) rfl dX9_promise_132 ?_
  obtain ⟨g10, hk⟩ := of_ite hk
  refine j_sl (pc' := 134) (fun _ _ _ => rfl) (inR_in g10) rfl dX9_promise_133 ?_
  refine j_aload_n (pc' := 135) rfl rfl dX9_promise_134 ?_
  refine j_getf (pc' := 138) fg_RX9_55 (hp_e rfl) rfl rfl dX9_promise_135 ?_
  refine j_iload (pc' := 140) rfl rfl dX9_promise_138 ?_
  refine j_iconst (pc' := 141) (v := 0) rfl rfl dX9_promise_140 ?_
  obtain ⟨g11, hk⟩ := of_ite hk
  refine j_si (pc' := 142) (fun _ _ _ => rfl) (inR_in g11) rfl dX9_promise_141 ?_
  refine j_aload_n (pc' := 143) rfl rfl dX9_promise_142 ?_
  refine j_getf (pc' := 146) fg_RX9_58 (hp_e rfl) rfl rfl dX9_promise_143 ?_
  refine j_iload (pc' := 148) rfl rfl dX9_promise_146 ?_
  refine j_iconst (pc' := 149) (v := 0) rfl rfl dX9_promise_148 ?_
  obtain ⟨g12, hk⟩ := of_ite hk
  refine j_si (pc' := 150) (fun _ _ _ => rfl) (inR_in g12) rfl dX9_promise_149 ?_
  refine j_iconst (pc' := 151) (v := 0) rfl rfl dX9_promise_150 ?_
  refine j_istore (pc' := 153) (lt_b rfl) rfl rfl dX9_promise_151 ?_
  obtain ⟨e, he, hk⟩ := of_bind hk
  refine lM_promise_s153 FU _ _ e he ?_ _ _ _ _ _ _
  · intro ς ee _ _ _ _ _ _ _ _
    subst ee
    exact qM_promise_x180 hk hP
theorem qM_promise_j34 {σ : Mem} {x1 : Int32} {x2 : Int32} {x3 : Int32} {x4 : Int32} {x5 : Int32} {x6 : Int32} {o7 : Option AV} {o8 : Option AV} {res : Int32 × Mem} (hk : kM_promise_j34 σ x1 x2 x3 x4 x5 x6 = some res) (hP : Po (some (vI res.1)) (hp res.2)) : J l D dA H0 YM_promise h0 Po 0 0 (hp σ) 34 [some (vR (some (30, 0))), some (vI x1), some (vI x2), some (vI x3), some (vI x4), some (vI x5), some (vI x6), o7, o8] [] := by
  unfold kM_promise_j34 at hk
  refine j_iload (pc' := 36) rfl rfl dX9_promise_34 ?_
  refine j_if_le (pc' := 39) (tg := 44) rfl rfl dX9_promise_36 (fun c16 => ?_) (fun c16 => ?_)
  · have hk := (if_pos c16).symm.trans hk
    refine j_aload_n (pc' := 45) rfl rfl dX9_promise_44 ?_
    refine j_getf (pc' := 48) fg_RX9_117 (hp_e rfl) rfl rfl dX9_promise_45 ?_
    refine j_istore (pc' := 50) (lt_b rfl) rfl rfl dX9_promise_48 ?_
    refine j_aload_n (pc' := 51) rfl rfl dX9_promise_50 ?_
    refine j_dup (pc' := 52) rfl rfl dX9_promise_51 ?_
    refine j_getf (pc' := 55) fg_RX9_117 (hp_e rfl) rfl rfl dX9_promise_52 ?_
    refine j_iconst (pc' := 56) (v := 1) rfl rfl dX9_promise_55 ?_
    refine j_iadd (pc' := 57) rfl dX9_promise_56 ?_
    refine j_pi (pc' := 60) (ty := .int) fg_RX9_117 ttX9 rfl rfl ⟨rfl, rfl⟩ rfl (lt_b rfl) rfl rfl dX9_promise_57 ?_
    refine j_aload_n (pc' := 61) rfl rfl dX9_promise_60 ?_
    refine j_getf (pc' := 64) fg_RX9_37 (hp_e rfl) rfl rfl dX9_promise_61 ?_
    refine j_iload (pc' := 66) rfl rfl dX9_promise_64 ?_
    refine j_iload (pc' := 68) rfl rfl dX9_promise_66 ?_
    refine j_iconst (pc' := 69) (v := (-1)) rfl rfl dX9_promise_68 ?_
    refine j_ic_ne (pc' := 72) (tg := 76) rfl rfl dX9_promise_69 (fun c15 => ?_) (fun c15 => ?_)
    · have hk := (if_neg c15).symm.trans hk
      refine j_iconst (pc' := 77) (v := 0) rfl rfl dX9_promise_76 ?_
      exact qM_promise_j77 hk hP
    · have hk := (if_pos c15).symm.trans hk
      refine j_iconst (pc' := 73) (v := 1) rfl rfl dX9_promise_72 ?_
      refine j_goto (tg := 77) rfl dX9_promise_73 ?_
      exact qM_promise_j77 hk hP
  · have hk := (if_neg c16).symm.trans hk
    refine j_iconst (pc' := 40) (v := (-1)) rfl rfl dX9_promise_39 ?_
    refine j_iload (pc' := 42) rfl rfl dX9_promise_40 ?_
    refine j_isub (pc' := 43) rfl dX9_promise_42 ?_
    obtain rfl := Option.some.inj hk
    exact j_iret rfl ⟨rfl, rfl⟩ dX9_promise_43 hP
theorem qM_promise {σ : Mem} {x1 : Int32} {x2 : Int32} {x3 : Int32} {x4 : Int32} {x5 : Int32} {o6 : Option AV} {o7 : Option AV} {o8 : Option AV} {res : Int32 × Mem} (hk : kM_promise σ x1 x2 x3 x4 x5 = some res) (hP : Po (some (vI res.1)) (hp res.2)) : J l D dA H0 YM_promise h0 Po 0 0 (hp σ) 0 [some (vR (some (30, 0))), some (vI x1), some (vI x2), some (vI x3), some (vI x4), some (vI x5), o6, o7, o8] [] := by
  unfold kM_promise at hk
  refine j_aload_n (pc' := 1) rfl rfl dX9_promise_0 ?_
  refine j_iload_n (pc' := 2) rfl rfl dX9_promise_1 ?_
  refine j_iload_n (pc' := 3) rfl rfl dX9_promise_2 ?_
  refine j_iload_n (pc' := 4) rfl rfl dX9_promise_3 ?_
  refine j_iload (pc' := 6) rfl rfl dX9_promise_4 ?_
  obtain ⟨⟨r1, σ2⟩, hx, hk⟩ := of_bind hk
  refine j_cv1 (pc' := 9) (LM_can hx) cv_RX9_197 ⟨le_b rfl, le_b rfl⟩ (hp_e rfl) rfl rfl (le_b rfl) ⟨rfl, rfl⟩ ⟨le_b rfl, le_b rfl⟩ rfl rfl dX9_promise_6 ?_
  refine j_istore (pc' := 11) (lt_b rfl) rfl rfl dX9_promise_9 ?_
  refine j_iload (pc' := 13) rfl rfl dX9_promise_11 ?_
  refine j_if_ne (pc' := 16) (tg := 34) rfl rfl dX9_promise_13 (fun c19 => ?_) (fun c19 => ?_)
  · have hk := (if_neg c19).symm.trans hk
    exact qM_promise_j34 hk hP
  · have hk := (if_pos c19).symm.trans hk
    refine j_iload (pc' := 18) rfl rfl dX9_promise_16 ?_
    refine j_aload_n (pc' := 19) rfl rfl dX9_promise_18 ?_
    refine j_getf (pc' := 22) fg_RX9_158 (hp_e rfl) rfl rfl dX9_promise_19 ?_
    refine j_ic_ge (pc' := 25) (tg := 34) rfl rfl dX9_promise_22 (fun c18 => ?_) (fun c18 => ?_)
    · have hk := (if_pos c18).symm.trans hk
      exact qM_promise_j34 hk hP
    · have hk := (if_neg c18).symm.trans hk
      refine j_iload (pc' := 27) rfl rfl dX9_promise_25 ?_
      refine j_iconst (pc' := 28) (v := (-1)) rfl rfl dX9_promise_27 ?_
      refine j_ic_eq (pc' := 31) (tg := 34) rfl rfl dX9_promise_28 (fun c17 => ?_) (fun c17 => ?_)
      · have hk := (if_pos c17).symm.trans hk
        exact qM_promise_j34 hk hP
      · have hk := (if_neg c17).symm.trans hk
        refine j_iconst (pc' := 32) (v := 5) rfl rfl dX9_promise_31 ?_
        refine j_istore (pc' := 34) (lt_b rfl) rfl rfl dX9_promise_32 ?_
        exact qM_promise_j34 hk hP
theorem LM_promise {σ σ' : Mem} {x1 : Int32} {x2 : Int32} {x3 : Int32} {x4 : Int32} {x5 : Int32} {r : Int32} (hk : kM_promise σ x1 x2 x3 x4 x5 = some (r, σ')) : M l D dA H0 yX9_promise YM_promise [vR (some (30, 0)), vI x1, vI x2, vI x3, vI x4, vI x5] (hp σ) (fun x h' => x = some (vI r) ∧ h' = hp σ') :=
  m_of (j := 3) (by decide) rfl (fun hh => by cases hh) ⟨fun _ _ => trivial, rfl⟩ (le_b rfl) (qM_promise hk ⟨rfl, rfl⟩)
theorem qM_isMade {σ : Mem} {x1 : Int32} {res : Int32 × Mem} (hk : kM_isMade σ x1 = some res) (hP : Po (some (vI res.1)) (hp res.2)) : J l D dA H0 YM_isMade h0 Po 0 0 (hp σ) 0 [some (vR (some (30, 0))), some (vI x1)] [] := by
  unfold kM_isMade at hk
  refine j_aload_n (pc' := 1) rfl rfl dX9_isMade_0 ?_
  refine j_iload_n (pc' := 2) rfl rfl dX9_isMade_1 ?_
  obtain ⟨⟨r1, σ2⟩, hx, hk⟩ := of_bind hk
  refine j_cv1 (pc' := 5) (LM_is hx) cv_RX9_201 ⟨le_b rfl, le_b rfl⟩ (hp_e rfl) rfl rfl (le_b rfl) ⟨rfl, rfl⟩ ⟨le_b rfl, le_b rfl⟩ rfl rfl dX9_isMade_2 ?_
  refine j_if_eq (pc' := 8) (tg := 22) rfl rfl dX9_isMade_5 (fun c5 => ?_) (fun c5 => ?_)
  · have hk := (if_pos c5).symm.trans hk
    refine j_iconst (pc' := 23) (v := 0) rfl rfl dX9_isMade_22 ?_
    obtain rfl := Option.some.inj hk
    exact j_zret rfl rfl ⟨rfl, rfl⟩ dX9_isMade_23 hP
  · have hk := (if_neg c5).symm.trans hk
    refine j_aload_n (pc' := 9) rfl rfl dX9_isMade_8 ?_
    refine j_getf (pc' := 12) fg_RX9_37 (hp_e rfl) rfl rfl dX9_isMade_9 ?_
    refine j_iload_n (pc' := 13) rfl rfl dX9_isMade_12 ?_
    obtain ⟨g3, hk⟩ := of_ite hk
    refine j_iald (pc' := 14) (hp_e rfl) (inR_in g3) rfl dX9_isMade_13 ?_
    refine j_iconst (pc' := 15) (v := 1) rfl rfl dX9_isMade_14 ?_
    refine j_ic_gt (pc' := 18) (tg := 22) rfl rfl dX9_isMade_15 (fun c4 => ?_) (fun c4 => ?_)
    · have hk := (if_pos c4).symm.trans hk
      refine j_iconst (pc' := 23) (v := 0) rfl rfl dX9_isMade_22 ?_
      obtain rfl := Option.some.inj hk
      exact j_zret rfl rfl ⟨rfl, rfl⟩ dX9_isMade_23 hP
    · have hk := (if_neg c4).symm.trans hk
      refine j_iconst (pc' := 19) (v := 1) rfl rfl dX9_isMade_18 ?_
      refine j_goto (tg := 23) rfl dX9_isMade_19 ?_
      obtain rfl := Option.some.inj hk
      exact j_zret rfl rfl ⟨rfl, rfl⟩ dX9_isMade_23 hP
theorem LM_isMade {σ σ' : Mem} {x1 : Int32} {r : Int32} (hk : kM_isMade σ x1 = some (r, σ')) : M l D dA H0 yX9_isMade YM_isMade [vR (some (30, 0)), vI x1] (hp σ) (fun x h' => x = some (vI r) ∧ h' = hp σ') :=
  m_of (j := 0) (by decide) rfl (fun hh => by cases hh) ⟨fun _ _ => trivial, rfl⟩ (le_b rfl) (qM_isMade hk ⟨rfl, rfl⟩)
theorem qM_firm {σ : Mem} {x1 : Int32} {res : Int32 × Mem} (hk : kM_firm σ x1 = some res) (hP : Po (some (vI res.1)) (hp res.2)) : J l D dA H0 YM_firm h0 Po 0 0 (hp σ) 0 [some (vR (some (30, 0))), some (vI x1)] [] := by
  unfold kM_firm at hk
  refine j_aload_n (pc' := 1) rfl rfl dX9_firm_0 ?_
  refine j_iconst (pc' := 2) (v := 0) rfl rfl dX9_firm_1 ?_
  refine j_pi (pc' := 5) (ty := .int) fg_RX9_1 ttX9 rfl rfl ⟨rfl, rfl⟩ rfl (lt_b rfl) rfl rfl dX9_firm_2 ?_
  refine j_aload_n (pc' := 6) rfl rfl dX9_firm_5 ?_
  refine j_iload_n (pc' := 7) rfl rfl dX9_firm_6 ?_
  obtain ⟨⟨r1, σ2⟩, hx, hk⟩ := of_bind hk
  refine j_cv1 (pc' := 10) (LM_is hx) cv_RX9_201 ⟨le_b rfl, le_b rfl⟩ (hp_e rfl) rfl rfl (le_b rfl) ⟨rfl, rfl⟩ ⟨le_b rfl, le_b rfl⟩ rfl rfl dX9_firm_7 ?_
  refine j_if_eq (pc' := 13) (tg := 22) rfl rfl dX9_firm_10 (fun c6 => ?_) (fun c6 => ?_)
  · have hk := (if_pos c6).symm.trans hk
    refine j_iconst (pc' := 23) (v := 0) rfl rfl dX9_firm_22 ?_
    obtain rfl := Option.some.inj hk
    exact j_zret rfl rfl ⟨rfl, rfl⟩ dX9_firm_23 hP
  · have hk := (if_neg c6).symm.trans hk
    refine j_aload_n (pc' := 14) rfl rfl dX9_firm_13 ?_
    refine j_getf (pc' := 17) fg_RX9_37 (hp_e rfl) rfl rfl dX9_firm_14 ?_
    refine j_iload_n (pc' := 18) rfl rfl dX9_firm_17 ?_
    obtain ⟨g3, hk⟩ := of_ite hk
    refine j_iald (pc' := 19) (hp_e rfl) (inR_in g3) rfl dX9_firm_18 ?_
    refine j_if_eq (pc' := 22) (tg := 24) rfl rfl dX9_firm_19 (fun c5 => ?_) (fun c5 => ?_)
    · have hk := (if_pos c5).symm.trans hk
      refine j_aload_n (pc' := 25) rfl rfl dX9_firm_24 ?_
      refine j_getf (pc' := 28) fg_RX9_37 (hp_e rfl) rfl rfl dX9_firm_25 ?_
      refine j_iload_n (pc' := 29) rfl rfl dX9_firm_28 ?_
      refine j_iconst (pc' := 30) (v := 1) rfl rfl dX9_firm_29 ?_
      obtain ⟨g4, hk⟩ := of_ite hk
      refine j_si (pc' := 31) (fun _ _ _ => rfl) (inR_in g4) rfl dX9_firm_30 ?_
      refine j_iconst (pc' := 32) (v := 1) rfl rfl dX9_firm_31 ?_
      obtain rfl := Option.some.inj hk
      exact j_zret rfl rfl ⟨rfl, rfl⟩ dX9_firm_32 hP
    · have hk := (if_neg c5).symm.trans hk
      refine j_iconst (pc' := 23) (v := 0) rfl rfl dX9_firm_22 ?_
      obtain rfl := Option.some.inj hk
      exact j_zret rfl rfl ⟨rfl, rfl⟩ dX9_firm_23 hP
theorem LM_firm {σ σ' : Mem} {x1 : Int32} {r : Int32} (hk : kM_firm σ x1 = some (r, σ')) : M l D dA H0 yX9_firm YM_firm [vR (some (30, 0)), vI x1] (hp σ) (fun x h' => x = some (vI r) ∧ h' = hp σ') :=
  m_of (j := 0) (by decide) rfl (fun hh => by cases hh) ⟨fun _ _ => trivial, rfl⟩ (le_b rfl) (qM_firm hk ⟨rfl, rfl⟩)
theorem qM_cancel {σ : Mem} {x1 : Int32} {res : Int32 × Mem} (hk : kM_cancel σ x1 = some res) (hP : Po (some (vI res.1)) (hp res.2)) : J l D dA H0 YM_cancel h0 Po 0 0 (hp σ) 0 [some (vR (some (30, 0))), some (vI x1)] [] := by
  unfold kM_cancel at hk
  refine j_aload_n (pc' := 1) rfl rfl dX9_cancel_0 ?_
  refine j_iconst (pc' := 2) (v := 0) rfl rfl dX9_cancel_1 ?_
  refine j_pi (pc' := 5) (ty := .int) fg_RX9_1 ttX9 rfl rfl ⟨rfl, rfl⟩ rfl (lt_b rfl) rfl rfl dX9_cancel_2 ?_
  refine j_aload_n (pc' := 6) rfl rfl dX9_cancel_5 ?_
  refine j_iload_n (pc' := 7) rfl rfl dX9_cancel_6 ?_
  obtain ⟨⟨r1, σ2⟩, hx, hk⟩ := of_bind hk
  refine j_cv1 (pc' := 10) (LM_isMade hx) cv_RX9_204 ⟨le_b rfl, le_b rfl⟩ (hp_e rfl) rfl rfl (le_b rfl) ⟨rfl, rfl⟩ ⟨le_b rfl, le_b rfl⟩ rfl rfl dX9_cancel_7 ?_
  refine j_if_ne (pc' := 13) (tg := 15) rfl rfl dX9_cancel_10 (fun c4 => ?_) (fun c4 => ?_)
  · have hk := (if_neg c4).symm.trans hk
    refine j_aload_n (pc' := 16) rfl rfl dX9_cancel_15 ?_
    refine j_getf (pc' := 19) fg_RX9_37 (hp_e rfl) rfl rfl dX9_cancel_16 ?_
    refine j_iload_n (pc' := 20) rfl rfl dX9_cancel_19 ?_
    refine j_iconst (pc' := 21) (v := 4) rfl rfl dX9_cancel_20 ?_
    obtain ⟨g3, hk⟩ := of_ite hk
    refine j_si (pc' := 22) (fun _ _ _ => rfl) (inR_in g3) rfl dX9_cancel_21 ?_
    refine j_iconst (pc' := 23) (v := 1) rfl rfl dX9_cancel_22 ?_
    obtain rfl := Option.some.inj hk
    exact j_zret rfl rfl ⟨rfl, rfl⟩ dX9_cancel_23 hP
  · have hk := (if_pos c4).symm.trans hk
    refine j_iconst (pc' := 14) (v := 0) rfl rfl dX9_cancel_13 ?_
    obtain rfl := Option.some.inj hk
    exact j_zret rfl rfl ⟨rfl, rfl⟩ dX9_cancel_14 hP
theorem LM_cancel {σ σ' : Mem} {x1 : Int32} {r : Int32} (hk : kM_cancel σ x1 = some (r, σ')) : M l D dA H0 yX9_cancel YM_cancel [vR (some (30, 0)), vI x1] (hp σ) (fun x h' => x = some (vI r) ∧ h' = hp σ') :=
  m_of (j := 0) (by decide) rfl (fun hh => by cases hh) ⟨fun _ _ => trivial, rfl⟩ (le_b rfl) (qM_cancel hk ⟨rfl, rfl⟩)
theorem qM_change {σ : Mem} {x1 : Int32} {x2 : Int32} {x3 : Int32} {o4 : Option AV} {res : Int32 × Mem} (hk : kM_change σ x1 x2 x3 = some res) (hP : Po (some (vI res.1)) (hp res.2)) : J l D dA H0 YM_change h0 Po 0 0 (hp σ) 0 [some (vR (some (30, 0))), some (vI x1), some (vI x2), some (vI x3), o4] [] := by
  unfold kM_change at hk
  refine j_aload_n (pc' := 1) rfl rfl dX9_change_0 ?_
  refine j_iconst (pc' := 2) (v := 0) rfl rfl dX9_change_1 ?_
  refine j_pi (pc' := 5) (ty := .int) fg_RX9_1 ttX9 rfl rfl ⟨rfl, rfl⟩ rfl (lt_b rfl) rfl rfl dX9_change_2 ?_
  refine j_aload_n (pc' := 6) rfl rfl dX9_change_5 ?_
  refine j_iload_n (pc' := 7) rfl rfl dX9_change_6 ?_
  obtain ⟨⟨r1, σ2⟩, hx, hk⟩ := of_bind hk
  refine j_cv1 (pc' := 10) (LM_isMade hx) cv_RX9_204 ⟨le_b rfl, le_b rfl⟩ (hp_e rfl) rfl rfl (le_b rfl) ⟨rfl, rfl⟩ ⟨le_b rfl, le_b rfl⟩ rfl rfl dX9_change_7 ?_
  refine j_if_ne (pc' := 13) (tg := 16) rfl rfl dX9_change_10 (fun c12 => ?_) (fun c12 => ?_)
  · have hk := (if_neg c12).symm.trans hk
    refine j_aload_n (pc' := 17) rfl rfl dX9_change_16 ?_
    refine j_aload_n (pc' := 18) rfl rfl dX9_change_17 ?_
    refine j_getf (pc' := 21) fg_RX9_40 (hp_e rfl) rfl rfl dX9_change_18 ?_
    refine j_iload_n (pc' := 22) rfl rfl dX9_change_21 ?_
    obtain ⟨g3, hk⟩ := of_ite hk
    refine j_iald (pc' := 23) (hp_e rfl) (inR_in g3) rfl dX9_change_22 ?_
    refine j_aload_n (pc' := 24) rfl rfl dX9_change_23 ?_
    refine j_getf (pc' := 27) fg_RX9_43 (hp_e rfl) rfl rfl dX9_change_24 ?_
    refine j_iload_n (pc' := 28) rfl rfl dX9_change_27 ?_
    obtain ⟨g4, hk⟩ := of_ite hk
    refine j_iald (pc' := 29) (hp_e rfl) (inR_in g4) rfl dX9_change_28 ?_
    refine j_iload_n (pc' := 30) rfl rfl dX9_change_29 ?_
    refine j_iload_n (pc' := 31) rfl rfl dX9_change_30 ?_
    refine j_iload_n (pc' := 32) rfl rfl dX9_change_31 ?_
    obtain ⟨⟨r5, σ6⟩, hx, hk⟩ := of_bind hk
    refine j_cv1 (pc' := 35) (LM_why hx) cv_RX9_193 ⟨le_b rfl, le_b rfl⟩ (hp_e rfl) rfl rfl (le_b rfl) ⟨rfl, rfl⟩ ⟨le_b rfl, le_b rfl⟩ rfl rfl dX9_change_32 ?_
    refine j_istore (pc' := 37) (lt_b rfl) rfl rfl dX9_change_35 ?_
    refine j_iload (pc' := 39) rfl rfl dX9_change_37 ?_
    refine j_if_le (pc' := 42) (tg := 45) rfl rfl dX9_change_39 (fun c11 => ?_) (fun c11 => ?_)
    · have hk := (if_pos c11).symm.trans hk
      refine j_aload_n (pc' := 46) rfl rfl dX9_change_45 ?_
      refine j_getf (pc' := 49) fg_RX9_46 (hp_e rfl) rfl rfl dX9_change_46 ?_
      refine j_iload_n (pc' := 50) rfl rfl dX9_change_49 ?_
      refine j_iload_n (pc' := 51) rfl rfl dX9_change_50 ?_
      obtain ⟨g7, hk⟩ := of_ite hk
      refine j_si (pc' := 52) (fun _ _ _ => rfl) (inR_in g7) rfl dX9_change_51 ?_
      refine j_aload_n (pc' := 53) rfl rfl dX9_change_52 ?_
      refine j_getf (pc' := 56) fg_RX9_49 (hp_e rfl) rfl rfl dX9_change_53 ?_
      refine j_iload_n (pc' := 57) rfl rfl dX9_change_56 ?_
      refine j_iload_n (pc' := 58) rfl rfl dX9_change_57 ?_
      obtain ⟨g8, hk⟩ := of_ite hk
      refine j_si (pc' := 59) (fun _ _ _ => rfl) (inR_in g8) rfl dX9_change_58 ?_
      refine j_aload_n (pc' := 60) rfl rfl dX9_change_59 ?_
      refine j_getf (pc' := 63) fg_RX9_61 (hp_e rfl) rfl rfl dX9_change_60 ?_
      refine j_iload_n (pc' := 64) rfl rfl dX9_change_63 ?_
      refine j_aload_n (pc' := 65) rfl rfl dX9_change_64 ?_
      refine j_getf (pc' := 68) fg_RX9_97 (hp_e rfl) rfl rfl dX9_change_65 ?_
      refine j_iload_n (pc' := 69) rfl rfl dX9_change_68 ?_
      obtain ⟨g9, hk⟩ := of_ite hk
      refine j_lald (pc' := 70) (hp_e rfl) (inR_in g9) rfl dX9_change_69 ?_
      obtain ⟨g10, hk⟩ := of_ite hk
      refine j_sl (pc' := 71) (fun _ _ _ => rfl) (inR_in g10) rfl dX9_change_70 ?_
      refine j_iconst (pc' := 72) (v := 0) rfl rfl dX9_change_71 ?_
      obtain rfl := Option.some.inj hk
      exact j_iret rfl ⟨rfl, rfl⟩ dX9_change_72 hP
    · have hk := (if_neg c11).symm.trans hk
      refine j_iload (pc' := 44) rfl rfl dX9_change_42 ?_
      obtain rfl := Option.some.inj hk
      exact j_iret rfl ⟨rfl, rfl⟩ dX9_change_44 hP
  · have hk := (if_pos c12).symm.trans hk
    refine j_bipush (pc' := 15) (v := 6) rfl rfl dX9_change_13 ?_
    obtain rfl := Option.some.inj hk
    exact j_iret rfl ⟨rfl, rfl⟩ dX9_change_15 hP
theorem LM_change {σ σ' : Mem} {x1 : Int32} {x2 : Int32} {x3 : Int32} {r : Int32} (hk : kM_change σ x1 x2 x3 = some (r, σ')) : M l D dA H0 yX9_change YM_change [vR (some (30, 0)), vI x1, vI x2, vI x3] (hp σ) (fun x h' => x = some (vI r) ∧ h' = hp σ') :=
  m_of (j := 1) (by decide) rfl (fun hh => by cases hh) ⟨fun _ _ => trivial, rfl⟩ (le_b rfl) (qM_change hk ⟨rfl, rfl⟩)
theorem qM_come {σ : Mem} {x1 : Int32} {res : Int32 × Mem} (hk : kM_come σ x1 = some res) (hP : Po (some (vI res.1)) (hp res.2)) : J l D dA H0 YM_come h0 Po 0 0 (hp σ) 0 [some (vR (some (30, 0))), some (vI x1)] [] := by
  unfold kM_come at hk
  refine j_aload_n (pc' := 1) rfl rfl dX9_come_0 ?_
  refine j_iconst (pc' := 2) (v := 0) rfl rfl dX9_come_1 ?_
  refine j_pi (pc' := 5) (ty := .int) fg_RX9_1 ttX9 rfl rfl ⟨rfl, rfl⟩ rfl (lt_b rfl) rfl rfl dX9_come_2 ?_
  refine j_aload_n (pc' := 6) rfl rfl dX9_come_5 ?_
  refine j_iload_n (pc' := 7) rfl rfl dX9_come_6 ?_
  obtain ⟨⟨r1, σ2⟩, hx, hk⟩ := of_bind hk
  refine j_cv1 (pc' := 10) (LM_isMade hx) cv_RX9_204 ⟨le_b rfl, le_b rfl⟩ (hp_e rfl) rfl rfl (le_b rfl) ⟨rfl, rfl⟩ ⟨le_b rfl, le_b rfl⟩ rfl rfl dX9_come_7 ?_
  refine j_if_eq (pc' := 13) (tg := 26) rfl rfl dX9_come_10 (fun c6 => ?_) (fun c6 => ?_)
  · have hk := (if_pos c6).symm.trans hk
    refine j_iconst (pc' := 27) (v := 0) rfl rfl dX9_come_26 ?_
    obtain rfl := Option.some.inj hk
    exact j_zret rfl rfl ⟨rfl, rfl⟩ dX9_come_27 hP
  · have hk := (if_neg c6).symm.trans hk
    refine j_aload_n (pc' := 14) rfl rfl dX9_come_13 ?_
    refine j_getf (pc' := 17) fg_RX9_46 (hp_e rfl) rfl rfl dX9_come_14 ?_
    refine j_iload_n (pc' := 18) rfl rfl dX9_come_17 ?_
    obtain ⟨g3, hk⟩ := of_ite hk
    refine j_iald (pc' := 19) (hp_e rfl) (inR_in g3) rfl dX9_come_18 ?_
    refine j_aload_n (pc' := 20) rfl rfl dX9_come_19 ?_
    refine j_getf (pc' := 23) fg_RX9_158 (hp_e rfl) rfl rfl dX9_come_20 ?_
    refine j_ic_eq (pc' := 26) (tg := 28) rfl rfl dX9_come_23 (fun c5 => ?_) (fun c5 => ?_)
    · have hk := (if_pos c5).symm.trans hk
      refine j_aload_n (pc' := 29) rfl rfl dX9_come_28 ?_
      refine j_getf (pc' := 32) fg_RX9_37 (hp_e rfl) rfl rfl dX9_come_29 ?_
      refine j_iload_n (pc' := 33) rfl rfl dX9_come_32 ?_
      refine j_iconst (pc' := 34) (v := 2) rfl rfl dX9_come_33 ?_
      obtain ⟨g4, hk⟩ := of_ite hk
      refine j_si (pc' := 35) (fun _ _ _ => rfl) (inR_in g4) rfl dX9_come_34 ?_
      refine j_iconst (pc' := 36) (v := 1) rfl rfl dX9_come_35 ?_
      obtain rfl := Option.some.inj hk
      exact j_zret rfl rfl ⟨rfl, rfl⟩ dX9_come_36 hP
    · have hk := (if_neg c5).symm.trans hk
      refine j_iconst (pc' := 27) (v := 0) rfl rfl dX9_come_26 ?_
      obtain rfl := Option.some.inj hk
      exact j_zret rfl rfl ⟨rfl, rfl⟩ dX9_come_27 hP
theorem LM_come {σ σ' : Mem} {x1 : Int32} {r : Int32} (hk : kM_come σ x1 = some (r, σ')) : M l D dA H0 yX9_come YM_come [vR (some (30, 0)), vI x1] (hp σ) (fun x h' => x = some (vI r) ∧ h' = hp σ') :=
  m_of (j := 0) (by decide) rfl (fun hh => by cases hh) ⟨fun _ _ => trivial, rfl⟩ (le_b rfl) (qM_come hk ⟨rfl, rfl⟩)
theorem qM_hasMoved {σ : Mem} {x1 : Int32} {x2 : Int32} {o3 : Option AV} {res : Int32 × Mem} (hk : kM_hasMoved σ x1 x2 = some res) (hP : Po (some (vI res.1)) (hp res.2)) : J l D dA H0 YM_hasMoved h0 Po 0 0 (hp σ) 0 [some (vR (some (30, 0))), some (vI x1), some (vI x2), o3] [] := by
  unfold kM_hasMoved at hk
  refine j_aload_n (pc' := 1) rfl rfl dX9_hasMoved_0 ?_
  refine j_getf (pc' := 4) fg_RX9_64 (hp_e rfl) rfl rfl dX9_hasMoved_1 ?_
  refine j_bipush (pc' := 6) (v := 60) rfl rfl dX9_hasMoved_4 ?_
  refine j_iload_n (pc' := 7) rfl rfl dX9_hasMoved_6 ?_
  refine j_imul (pc' := 8) rfl dX9_hasMoved_7 ?_
  refine j_iload_n (pc' := 9) rfl rfl dX9_hasMoved_8 ?_
  refine j_iadd (pc' := 10) rfl dX9_hasMoved_9 ?_
  obtain ⟨g1, hk⟩ := of_ite hk
  refine j_iald (pc' := 11) (hp_e rfl) (inR_in g1) rfl dX9_hasMoved_10 ?_
  refine j_istore_n (pc' := 12) (lt_b rfl) rfl rfl dX9_hasMoved_11 ?_
  refine j_iload_n (pc' := 13) rfl rfl dX9_hasMoved_12 ?_
  refine j_if_le (pc' := 16) (tg := 59) rfl rfl dX9_hasMoved_13 (fun c7 => ?_) (fun c7 => ?_)
  · have hk := (if_pos c7).symm.trans hk
    refine j_iconst (pc' := 60) (v := 0) rfl rfl dX9_hasMoved_59 ?_
    obtain rfl := Option.some.inj hk
    exact j_zret rfl rfl ⟨rfl, rfl⟩ dX9_hasMoved_60 hP
  · have hk := (if_neg c7).symm.trans hk
    refine j_iload_n (pc' := 17) rfl rfl dX9_hasMoved_16 ?_
    refine j_iconst (pc' := 18) (v := (-1)) rfl rfl dX9_hasMoved_17 ?_
    refine j_ic_eq (pc' := 21) (tg := 59) rfl rfl dX9_hasMoved_18 (fun c6 => ?_) (fun c6 => ?_)
    · have hk := (if_pos c6).symm.trans hk
      refine j_iconst (pc' := 60) (v := 0) rfl rfl dX9_hasMoved_59 ?_
      obtain rfl := Option.some.inj hk
      exact j_zret rfl rfl ⟨rfl, rfl⟩ dX9_hasMoved_60 hP
    · have hk := (if_neg c6).symm.trans hk
      refine j_aload_n (pc' := 22) rfl rfl dX9_hasMoved_21 ?_
      refine j_getf (pc' := 25) fg_RX9_64 (hp_e rfl) rfl rfl dX9_hasMoved_22 ?_
      refine j_bipush (pc' := 27) (v := 60) rfl rfl dX9_hasMoved_25 ?_
      refine j_iload_n (pc' := 28) rfl rfl dX9_hasMoved_27 ?_
      refine j_imul (pc' := 29) rfl dX9_hasMoved_28 ?_
      refine j_iload_n (pc' := 30) rfl rfl dX9_hasMoved_29 ?_
      refine j_iadd (pc' := 31) rfl dX9_hasMoved_30 ?_
      refine j_iconst (pc' := 32) (v := 1) rfl rfl dX9_hasMoved_31 ?_
      refine j_isub (pc' := 33) rfl dX9_hasMoved_32 ?_
      obtain ⟨g2, hk⟩ := of_ite hk
      refine j_iald (pc' := 34) (hp_e rfl) (inR_in g2) rfl dX9_hasMoved_33 ?_
      refine j_iconst (pc' := 35) (v := (-1)) rfl rfl dX9_hasMoved_34 ?_
      refine j_ic_eq (pc' := 38) (tg := 59) rfl rfl dX9_hasMoved_35 (fun c5 => ?_) (fun c5 => ?_)
      · have hk := (if_pos c5).symm.trans hk
        refine j_iconst (pc' := 60) (v := 0) rfl rfl dX9_hasMoved_59 ?_
        obtain rfl := Option.some.inj hk
        exact j_zret rfl rfl ⟨rfl, rfl⟩ dX9_hasMoved_60 hP
      · have hk := (if_neg c5).symm.trans hk
        refine j_aload_n (pc' := 39) rfl rfl dX9_hasMoved_38 ?_
        refine j_getf (pc' := 42) fg_RX9_64 (hp_e rfl) rfl rfl dX9_hasMoved_39 ?_
        refine j_bipush (pc' := 44) (v := 60) rfl rfl dX9_hasMoved_42 ?_
        refine j_iload_n (pc' := 45) rfl rfl dX9_hasMoved_44 ?_
        refine j_imul (pc' := 46) rfl dX9_hasMoved_45 ?_
        refine j_iload_n (pc' := 47) rfl rfl dX9_hasMoved_46 ?_
        refine j_iadd (pc' := 48) rfl dX9_hasMoved_47 ?_
        refine j_iconst (pc' := 49) (v := 1) rfl rfl dX9_hasMoved_48 ?_
        refine j_isub (pc' := 50) rfl dX9_hasMoved_49 ?_
        obtain ⟨g3, hk⟩ := of_ite hk
        refine j_iald (pc' := 51) (hp_e rfl) (inR_in g3) rfl dX9_hasMoved_50 ?_
        refine j_iload_n (pc' := 52) rfl rfl dX9_hasMoved_51 ?_
        refine j_ic_eq (pc' := 55) (tg := 59) rfl rfl dX9_hasMoved_52 (fun c4 => ?_) (fun c4 => ?_)
        · have hk := (if_pos c4).symm.trans hk
          refine j_iconst (pc' := 60) (v := 0) rfl rfl dX9_hasMoved_59 ?_
          obtain rfl := Option.some.inj hk
          exact j_zret rfl rfl ⟨rfl, rfl⟩ dX9_hasMoved_60 hP
        · have hk := (if_neg c4).symm.trans hk
          refine j_iconst (pc' := 56) (v := 1) rfl rfl dX9_hasMoved_55 ?_
          refine j_goto (tg := 60) rfl dX9_hasMoved_56 ?_
          obtain rfl := Option.some.inj hk
          exact j_zret rfl rfl ⟨rfl, rfl⟩ dX9_hasMoved_60 hP
theorem LM_hasMoved {σ σ' : Mem} {x1 : Int32} {x2 : Int32} {r : Int32} (hk : kM_hasMoved σ x1 x2 = some (r, σ')) : M l D dA H0 yX9_hasMoved YM_hasMoved [vR (some (30, 0)), vI x1, vI x2] (hp σ) (fun x h' => x = some (vI r) ∧ h' = hp σ') :=
  m_of (j := 1) (by decide) rfl (fun hh => by cases hh) ⟨fun _ _ => trivial, rfl⟩ (le_b rfl) (qM_hasMoved hk ⟨rfl, rfl⟩)
theorem qM_next_s18 {σ : Mem} {x1 : Int32} {o2 : Option AV} {out : (Int32 × Mem) ⊕ (Mem)} (hk : kM_next_s18 (x1, σ) = some out) (hc : ∀ (z1 : Int32) (ς : Mem), out = .inl (z1, ς) → ∀ (o2 : Option AV), J l D dA H0 YM_next h0 Po 0 0 (hp ς) 18 [some (vR (some (30, 0))), some (vI z1), o2] []) (hx0 : ∀ (ς : Mem), out = .inr ς → ∀ (o1 o2 : Option AV), J l D dA H0 YM_next h0 Po 0 0 (hp ς) 62 [some (vR (some (30, 0))), o1, o2] []) : J l D dA H0 YM_next h0 Po 0 0 (hp σ) 18 [some (vR (some (30, 0))), some (vI x1), o2] [] := by
  unfold kM_next_s18 at hk
  refine j_iload_n (pc' := 19) rfl rfl dX9_next_18 ?_
  refine j_aload_n (pc' := 20) rfl rfl dX9_next_19 ?_
  refine j_getf (pc' := 23) fg_RX9_117 (hp_e rfl) rfl rfl dX9_next_20 ?_
  refine j_ic_ge (pc' := 26) (tg := 62) rfl rfl dX9_next_23 (fun c7 => ?_) (fun c7 => ?_)
  · have hk := (if_pos c7).symm.trans hk
    obtain rfl := Option.some.inj hk
    exact hx0 _ rfl _ _
  · have hk := (if_neg c7).symm.trans hk
    refine j_aload_n (pc' := 27) rfl rfl dX9_next_26 ?_
    refine j_getf (pc' := 30) fg_RX9_37 (hp_e rfl) rfl rfl dX9_next_27 ?_
    refine j_iload_n (pc' := 31) rfl rfl dX9_next_30 ?_
    obtain ⟨g1, hk⟩ := of_ite hk
    refine j_iald (pc' := 32) (hp_e rfl) (inR_in g1) rfl dX9_next_31 ?_
    refine j_iconst (pc' := 33) (v := 1) rfl rfl dX9_next_32 ?_
    refine j_ic_gt (pc' := 36) (tg := 56) rfl rfl dX9_next_33 (fun c6 => ?_) (fun c6 => ?_)
    · have hk := (if_pos c6).symm.trans hk
      refine j_iinc (pc' := 59) (v := x1 + 1) rfl rfl (lt_b rfl) rfl rfl dX9_next_56 ?_
      refine j_goto (tg := 18) rfl dX9_next_59 ?_
      obtain rfl := Option.some.inj hk
      exact hc _ _ rfl _
    · have hk := (if_neg c6).symm.trans hk
      refine j_aload_n (pc' := 37) rfl rfl dX9_next_36 ?_
      refine j_iload_n (pc' := 38) rfl rfl dX9_next_37 ?_
      refine j_aload_n (pc' := 39) rfl rfl dX9_next_38 ?_
      refine j_getf (pc' := 42) fg_RX9_158 (hp_e rfl) rfl rfl dX9_next_39 ?_
      obtain ⟨⟨r2, σ3⟩, hx, hk⟩ := of_bind hk
      refine j_cv1 (pc' := 45) (LM_wants hx) cv_RX9_144 ⟨le_b rfl, le_b rfl⟩ (hp_e rfl) rfl rfl (le_b rfl) ⟨rfl, rfl⟩ ⟨le_b rfl, le_b rfl⟩ rfl rfl dX9_next_42 ?_
      refine j_if_eq (pc' := 48) (tg := 56) rfl rfl dX9_next_45 (fun c5 => ?_) (fun c5 => ?_)
      · have hk := (if_pos c5).symm.trans hk
        refine j_iinc (pc' := 59) (v := x1 + 1) rfl rfl (lt_b rfl) rfl rfl dX9_next_56 ?_
        refine j_goto (tg := 18) rfl dX9_next_59 ?_
        obtain rfl := Option.some.inj hk
        exact hc _ _ rfl _
      · have hk := (if_neg c5).symm.trans hk
        refine j_aload_n (pc' := 49) rfl rfl dX9_next_48 ?_
        refine j_getf (pc' := 52) fg_RX9_37 (hp_e rfl) rfl rfl dX9_next_49 ?_
        refine j_iload_n (pc' := 53) rfl rfl dX9_next_52 ?_
        refine j_bipush (pc' := 55) (v := 6) rfl rfl dX9_next_53 ?_
        obtain ⟨g4, hk⟩ := of_ite hk
        refine j_si (pc' := 56) (fun _ _ _ => rfl) (inR_in g4) rfl dX9_next_55 ?_
        refine j_iinc (pc' := 59) (v := x1 + 1) rfl rfl (lt_b rfl) rfl rfl dX9_next_56 ?_
        refine j_goto (tg := 18) rfl dX9_next_59 ?_
        obtain rfl := Option.some.inj hk
        exact hc _ _ rfl _
theorem lM_next_s18 : ∀ (n : Nat) (x1 : Int32) (σ : Mem) (e : (Mem)), loopF n (kM_next_s18) (x1, σ) = some e → (∀ (ς : Mem), e = ς → ∀ (o1 o2 : Option AV), J l D dA H0 YM_next h0 Po 0 0 (hp ς) 62 [some (vR (some (30, 0))), o1, o2] []) → ∀ (o2 : Option AV), J l D dA H0 YM_next h0 Po 0 0 (hp σ) 18 [some (vR (some (30, 0))), some (vI x1), o2] []
  | 0, x1, σ, e, he => by cases he
  | n + 1, x1, σ, e, he => by
    intro hx0 o2
    rcases loopF_succ he with ⟨s', h1, h2⟩ | h1
    · refine qM_next_s18 h1 ?_ ?_
      · intro z1 ς ee
        cases ee
        exact lM_next_s18 n z1 ς e h2 hx0
      · intro ς ee
        cases ee
    · refine qM_next_s18 h1 ?_ ?_
      · intro z1 ς ee
        cases ee
      · intro ς ee
        exact hx0 ς (Sum.inr.inj ee)
theorem qM_next_s74 {σ : Mem} {x1 : Int32} {x2 : Int32} {out : (Int32 × Int32 × Mem) ⊕ (Int32 × Mem)} (hk : kM_next_s74 (x1, x2, σ) = some out) (hc : ∀ (z1 : Int32) (z2 : Int32) (ς : Mem), out = .inl (z1, z2, ς) → ∀ (_ : Unit), J l D dA H0 YM_next h0 Po 0 0 (hp ς) 74 [some (vR (some (30, 0))), some (vI z1), some (vI z2)] []) (hx0 : ∀ (z1 : Int32) (ς : Mem), out = .inr (z1, ς) → ∀ (o2 : Option AV), J l D dA H0 YM_next h0 Po 0 0 (hp ς) 168 [some (vR (some (30, 0))), some (vI z1), o2] []) : J l D dA H0 YM_next h0 Po 0 0 (hp σ) 74 [some (vR (some (30, 0))), some (vI x1), some (vI x2)] [] := by
  unfold kM_next_s74 at hk
  refine j_iload_n (pc' := 75) rfl rfl dX9_next_74 ?_
  refine j_aload_n (pc' := 76) rfl rfl dX9_next_75 ?_
  refine j_getf (pc' := 79) fg_RX9_117 (hp_e rfl) rfl rfl dX9_next_76 ?_
  refine j_ic_ge (pc' := 82) (tg := 168) rfl rfl dX9_next_79 (fun c25 => ?_) (fun c25 => ?_)
  · have hk := (if_pos c25).symm.trans hk
    obtain rfl := Option.some.inj hk
    exact hx0 _ _ rfl _
  · have hk := (if_neg c25).symm.trans hk
    refine j_aload_n (pc' := 83) rfl rfl dX9_next_82 ?_
    refine j_getf (pc' := 86) fg_RX9_37 (hp_e rfl) rfl rfl dX9_next_83 ?_
    refine j_iload_n (pc' := 87) rfl rfl dX9_next_86 ?_
    obtain ⟨g10, hk⟩ := of_ite hk
    refine j_iald (pc' := 88) (hp_e rfl) (inR_in g10) rfl dX9_next_87 ?_
    refine j_iconst (pc' := 89) (v := 2) rfl rfl dX9_next_88 ?_
    refine j_ic_ne (pc' := 92) (tg := 162) rfl rfl dX9_next_89 (fun c24 => ?_) (fun c24 => ?_)
    · have hk := (if_neg c24).symm.trans hk
      refine j_iinc (pc' := 165) (v := x2 + 1) rfl rfl (lt_b rfl) rfl rfl dX9_next_162 ?_
      refine j_goto (tg := 74) rfl dX9_next_165 ?_
      obtain rfl := Option.some.inj hk
      exact hc _ _ _ rfl ()
    · have hk := (if_pos c24).symm.trans hk
      refine j_aload_n (pc' := 93) rfl rfl dX9_next_92 ?_
      refine j_iload_n (pc' := 94) rfl rfl dX9_next_93 ?_
      refine j_aload_n (pc' := 95) rfl rfl dX9_next_94 ?_
      refine j_getf (pc' := 98) fg_RX9_158 (hp_e rfl) rfl rfl dX9_next_95 ?_
      obtain ⟨⟨r11, σ12⟩, hx, hk⟩ := of_bind hk
      refine j_cv1 (pc' := 101) (LM_wants hx) cv_RX9_144 ⟨le_b rfl, le_b rfl⟩ (hp_e rfl) rfl rfl (le_b rfl) ⟨rfl, rfl⟩ ⟨le_b rfl, le_b rfl⟩ rfl rfl dX9_next_98 ?_
      refine j_if_ne (pc' := 104) (tg := 107) rfl rfl dX9_next_101 (fun c23 => ?_) (fun c23 => ?_)
      · have hk := (if_neg c23).symm.trans hk
        refine j_aload_n (pc' := 108) rfl rfl dX9_next_107 ?_
        refine j_getf (pc' := 111) fg_RX9_76 (hp_e rfl) rfl rfl dX9_next_108 ?_
        refine j_iload_n (pc' := 112) rfl rfl dX9_next_111 ?_
        obtain ⟨g13, hk⟩ := of_ite hk
        refine j_bald (pc' := 113) (hp_e rfl) (inR_in g13) rfl dX9_next_112 ?_
        refine j_if_eq (pc' := 116) (tg := 151) rfl rfl dX9_next_113 (fun c22 => ?_) (fun c22 => ?_)
        · have hk := (if_pos c22).symm.trans hk
          refine j_aload_n (pc' := 152) rfl rfl dX9_next_151 ?_
          refine j_getf (pc' := 155) fg_RX9_37 (hp_e rfl) rfl rfl dX9_next_152 ?_
          refine j_iload_n (pc' := 156) rfl rfl dX9_next_155 ?_
          refine j_bipush (pc' := 158) (v := 7) rfl rfl dX9_next_156 ?_
          obtain ⟨g14, hk⟩ := of_ite hk
          refine j_si (pc' := 159) (fun _ _ _ => rfl) (inR_in g14) rfl dX9_next_158 ?_
          refine j_iinc (pc' := 162) (v := x1 + 1) rfl rfl (lt_b rfl) rfl rfl dX9_next_159 ?_
          refine j_iinc (pc' := 165) (v := x2 + 1) rfl rfl (lt_b rfl) rfl rfl dX9_next_162 ?_
          refine j_goto (tg := 74) rfl dX9_next_165 ?_
          obtain rfl := Option.some.inj hk
          exact hc _ _ _ rfl ()
        · have hk := (if_neg c22).symm.trans hk
          refine j_aload_n (pc' := 117) rfl rfl dX9_next_116 ?_
          refine j_getf (pc' := 120) fg_RX9_55 (hp_e rfl) rfl rfl dX9_next_117 ?_
          refine j_iload_n (pc' := 121) rfl rfl dX9_next_120 ?_
          refine j_dup2 (pc' := 122) rfl rfl rfl dX9_next_121 ?_
          obtain ⟨g15, hk⟩ := of_ite hk
          refine j_iald (pc' := 123) (hp_e rfl) (inR_in g15) rfl dX9_next_122 ?_
          refine j_iconst (pc' := 124) (v := 1) rfl rfl dX9_next_123 ?_
          refine j_iadd (pc' := 125) rfl dX9_next_124 ?_
          obtain ⟨g16, hk⟩ := of_ite hk
          refine j_si (pc' := 126) (fun _ _ _ => rfl) (inR_in g16) rfl dX9_next_125 ?_
          refine j_aload_n (pc' := 127) rfl rfl dX9_next_126 ?_
          refine j_iload_n (pc' := 128) rfl rfl dX9_next_127 ?_
          refine j_aload_n (pc' := 129) rfl rfl dX9_next_128 ?_
          refine j_getf (pc' := 132) fg_RX9_158 (hp_e rfl) rfl rfl dX9_next_129 ?_
          obtain ⟨⟨r17, σ18⟩, hx, hk⟩ := of_bind hk
          refine j_cv1 (pc' := 135) (LM_hasMoved hx) cv_RX9_207 ⟨le_b rfl, le_b rfl⟩ (hp_e rfl) rfl rfl (le_b rfl) ⟨rfl, rfl⟩ ⟨le_b rfl, le_b rfl⟩ rfl rfl dX9_next_132 ?_
          refine j_if_eq (pc' := 138) (tg := 162) rfl rfl dX9_next_135 (fun c21 => ?_) (fun c21 => ?_)
          · have hk := (if_pos c21).symm.trans hk
            refine j_iinc (pc' := 165) (v := x2 + 1) rfl rfl (lt_b rfl) rfl rfl dX9_next_162 ?_
            refine j_goto (tg := 74) rfl dX9_next_165 ?_
            obtain rfl := Option.some.inj hk
            exact hc _ _ _ rfl ()
          · have hk := (if_neg c21).symm.trans hk
            refine j_aload_n (pc' := 139) rfl rfl dX9_next_138 ?_
            refine j_getf (pc' := 142) fg_RX9_58 (hp_e rfl) rfl rfl dX9_next_139 ?_
            refine j_iload_n (pc' := 143) rfl rfl dX9_next_142 ?_
            refine j_dup2 (pc' := 144) rfl rfl rfl dX9_next_143 ?_
            obtain ⟨g19, hk⟩ := of_ite hk
            refine j_iald (pc' := 145) (hp_e rfl) (inR_in g19) rfl dX9_next_144 ?_
            refine j_iconst (pc' := 146) (v := 1) rfl rfl dX9_next_145 ?_
            refine j_iadd (pc' := 147) rfl dX9_next_146 ?_
            obtain ⟨g20, hk⟩ := of_ite hk
            refine j_si (pc' := 148) (fun _ _ _ => rfl) (inR_in g20) rfl dX9_next_147 ?_
            refine j_goto (tg := 162) rfl dX9_next_148 ?_
            refine j_iinc (pc' := 165) (v := x2 + 1) rfl rfl (lt_b rfl) rfl rfl dX9_next_162 ?_
            refine j_goto (tg := 74) rfl dX9_next_165 ?_
            obtain rfl := Option.some.inj hk
            exact hc _ _ _ rfl ()
      · have hk := (if_pos c23).symm.trans hk
        refine j_goto (tg := 162) rfl dX9_next_104 ?_
        refine j_iinc (pc' := 165) (v := x2 + 1) rfl rfl (lt_b rfl) rfl rfl dX9_next_162 ?_
        refine j_goto (tg := 74) rfl dX9_next_165 ?_
        obtain rfl := Option.some.inj hk
        exact hc _ _ _ rfl ()
theorem lM_next_s74 : ∀ (n : Nat) (x1 : Int32) (x2 : Int32) (σ : Mem) (e : (Int32 × Mem)), loopF n (kM_next_s74) (x1, x2, σ) = some e → (∀ (z1 : Int32) (ς : Mem), e = (z1, ς) → ∀ (o2 : Option AV), J l D dA H0 YM_next h0 Po 0 0 (hp ς) 168 [some (vR (some (30, 0))), some (vI z1), o2] []) → ∀ (_ : Unit), J l D dA H0 YM_next h0 Po 0 0 (hp σ) 74 [some (vR (some (30, 0))), some (vI x1), some (vI x2)] []
  | 0, x1, x2, σ, e, he => by cases he
  | n + 1, x1, x2, σ, e, he => by
    intro hx0 u
    rcases loopF_succ he with ⟨s', h1, h2⟩ | h1
    · refine qM_next_s74 h1 ?_ ?_
      · intro z1 z2 ς ee
        cases ee
        exact lM_next_s74 n z1 z2 ς e h2 hx0
      · intro z1 ς ee
        cases ee
    · refine qM_next_s74 h1 ?_ ?_
      · intro z1 z2 ς ee
        cases ee
      · intro z1 ς ee
        exact hx0 z1 ς (Sum.inr.inj ee)
theorem qM_next_j218 {σ : Mem} {x1 : Int32} {x2 : Int32} {out : Int32 × Mem ⊕ (Mem)} (hk : kM_next_j218 σ x1 x2 = some out) (hc : ∀ (z2 : Int32) (ς : Mem), out = .inl (z2, ς) → ∀ (_ : Unit), J l D dA H0 YM_next h0 Po 0 0 (hp ς) 180 [some (vR (some (30, 0))), some (vI x1), some (vI z2)] []) (hx0 : ∀ (ς : Mem), out = .inr ς → ∀ (o0 o2 : Option AV), J l D dA H0 YM_next h0 Po 0 0 (hp ς) 253 [o0, some (vI x1), o2] []) : J l D dA H0 YM_next h0 Po 0 0 (hp σ) 218 [some (vR (some (30, 0))), some (vI x1), some (vI x2)] [] := by
  unfold kM_next_j218 at hk
  refine j_aload_n (pc' := 219) rfl rfl dX9_next_218 ?_
  refine j_getf (pc' := 222) fg_RX9_37 (hp_e rfl) rfl rfl dX9_next_219 ?_
  refine j_iload_n (pc' := 223) rfl rfl dX9_next_222 ?_
  obtain ⟨g27, hk⟩ := of_ite hk
  refine j_iald (pc' := 224) (hp_e rfl) (inR_in g27) rfl dX9_next_223 ?_
  refine j_if_ne (pc' := 227) (tg := 247) rfl rfl dX9_next_224 (fun c31 => ?_) (fun c31 => ?_)
  · have hk := (if_neg c31).symm.trans hk
    refine j_iinc (pc' := 250) (v := x2 + 1) rfl rfl (lt_b rfl) rfl rfl dX9_next_247 ?_
    refine j_goto (tg := 180) rfl dX9_next_250 ?_
    obtain rfl := Option.some.inj hk
    exact hc _ _ rfl ()
  · have hk := (if_pos c31).symm.trans hk
    refine j_aload_n (pc' := 228) rfl rfl dX9_next_227 ?_
    refine j_getf (pc' := 231) fg_RX9_52 (hp_e rfl) rfl rfl dX9_next_228 ?_
    refine j_iload_n (pc' := 232) rfl rfl dX9_next_231 ?_
    obtain ⟨g28, hk⟩ := of_ite hk
    refine j_iald (pc' := 233) (hp_e rfl) (inR_in g28) rfl dX9_next_232 ?_
    refine j_aload_n (pc' := 234) rfl rfl dX9_next_233 ?_
    refine j_getf (pc' := 237) fg_RX9_158 (hp_e rfl) rfl rfl dX9_next_234 ?_
    refine j_ic_ge (pc' := 240) (tg := 247) rfl rfl dX9_next_237 (fun c30 => ?_) (fun c30 => ?_)
    · have hk := (if_pos c30).symm.trans hk
      refine j_iinc (pc' := 250) (v := x2 + 1) rfl rfl (lt_b rfl) rfl rfl dX9_next_247 ?_
      refine j_goto (tg := 180) rfl dX9_next_250 ?_
      obtain rfl := Option.some.inj hk
      exact hc _ _ rfl ()
    · have hk := (if_neg c30).symm.trans hk
      refine j_aload_n (pc' := 241) rfl rfl dX9_next_240 ?_
      refine j_getf (pc' := 244) fg_RX9_37 (hp_e rfl) rfl rfl dX9_next_241 ?_
      refine j_iload_n (pc' := 245) rfl rfl dX9_next_244 ?_
      refine j_iconst (pc' := 246) (v := 5) rfl rfl dX9_next_245 ?_
      obtain ⟨g29, hk⟩ := of_ite hk
      refine j_si (pc' := 247) (fun _ _ _ => rfl) (inR_in g29) rfl dX9_next_246 ?_
      refine j_iinc (pc' := 250) (v := x2 + 1) rfl rfl (lt_b rfl) rfl rfl dX9_next_247 ?_
      refine j_goto (tg := 180) rfl dX9_next_250 ?_
      obtain rfl := Option.some.inj hk
      exact hc _ _ rfl ()
theorem qM_next_s180 {σ : Mem} {x1 : Int32} {x2 : Int32} {out : (Int32 × Mem) ⊕ (Mem)} (hk : kM_next_s180 x1 (x2, σ) = some out) (hc : ∀ (z2 : Int32) (ς : Mem), out = .inl (z2, ς) → ∀ (_ : Unit), J l D dA H0 YM_next h0 Po 0 0 (hp ς) 180 [some (vR (some (30, 0))), some (vI x1), some (vI z2)] []) (hx0 : ∀ (ς : Mem), out = .inr ς → ∀ (o0 o2 : Option AV), J l D dA H0 YM_next h0 Po 0 0 (hp ς) 253 [o0, some (vI x1), o2] []) : J l D dA H0 YM_next h0 Po 0 0 (hp σ) 180 [some (vR (some (30, 0))), some (vI x1), some (vI x2)] [] := by
  unfold kM_next_s180 at hk
  refine j_iload_n (pc' := 181) rfl rfl dX9_next_180 ?_
  refine j_aload_n (pc' := 182) rfl rfl dX9_next_181 ?_
  refine j_getf (pc' := 185) fg_RX9_117 (hp_e rfl) rfl rfl dX9_next_182 ?_
  refine j_ic_ge (pc' := 188) (tg := 253) rfl rfl dX9_next_185 (fun c36 => ?_) (fun c36 => ?_)
  · have hk := (if_pos c36).symm.trans hk
    obtain rfl := Option.some.inj hk
    exact hx0 _ rfl _ _
  · have hk := (if_neg c36).symm.trans hk
    refine j_aload_n (pc' := 189) rfl rfl dX9_next_188 ?_
    refine j_getf (pc' := 192) fg_RX9_37 (hp_e rfl) rfl rfl dX9_next_189 ?_
    refine j_iload_n (pc' := 193) rfl rfl dX9_next_192 ?_
    obtain ⟨g26, hk⟩ := of_ite hk
    refine j_iald (pc' := 194) (hp_e rfl) (inR_in g26) rfl dX9_next_193 ?_
    refine j_iconst (pc' := 195) (v := 2) rfl rfl dX9_next_194 ?_
    refine j_ic_ne (pc' := 198) (tg := 218) rfl rfl dX9_next_195 (fun c35 => ?_) (fun c35 => ?_)
    · have hk := (if_neg c35).symm.trans hk
      exact qM_next_j218 hk hc hx0
    · have hk := (if_pos c35).symm.trans hk
      refine j_aload_n (pc' := 199) rfl rfl dX9_next_198 ?_
      refine j_getf (pc' := 202) fg_RX9_49 (hp_e rfl) rfl rfl dX9_next_199 ?_
      refine j_iload_n (pc' := 203) rfl rfl dX9_next_202 ?_
      obtain ⟨g32, hk⟩ := of_ite hk
      refine j_iald (pc' := 204) (hp_e rfl) (inR_in g32) rfl dX9_next_203 ?_
      refine j_aload_n (pc' := 205) rfl rfl dX9_next_204 ?_
      refine j_getf (pc' := 208) fg_RX9_158 (hp_e rfl) rfl rfl dX9_next_205 ?_
      refine j_ic_ne (pc' := 211) (tg := 218) rfl rfl dX9_next_208 (fun c34 => ?_) (fun c34 => ?_)
      · have hk := (if_neg c34).symm.trans hk
        exact qM_next_j218 hk hc hx0
      · have hk := (if_pos c34).symm.trans hk
        refine j_aload_n (pc' := 212) rfl rfl dX9_next_211 ?_
        refine j_getf (pc' := 215) fg_RX9_37 (hp_e rfl) rfl rfl dX9_next_212 ?_
        refine j_iload_n (pc' := 216) rfl rfl dX9_next_215 ?_
        refine j_iconst (pc' := 217) (v := 3) rfl rfl dX9_next_216 ?_
        obtain ⟨g33, hk⟩ := of_ite hk
        refine j_si (pc' := 218) (fun _ _ _ => rfl) (inR_in g33) rfl dX9_next_217 ?_
        exact qM_next_j218 hk hc hx0
theorem lM_next_s180 {x1 : Int32} : ∀ (n : Nat) (x2 : Int32) (σ : Mem) (e : (Mem)), loopF n (kM_next_s180 x1) (x2, σ) = some e → (∀ (ς : Mem), e = ς → ∀ (o0 o2 : Option AV), J l D dA H0 YM_next h0 Po 0 0 (hp ς) 253 [o0, some (vI x1), o2] []) → ∀ (_ : Unit), J l D dA H0 YM_next h0 Po 0 0 (hp σ) 180 [some (vR (some (30, 0))), some (vI x1), some (vI x2)] []
  | 0, x2, σ, e, he => by cases he
  | n + 1, x2, σ, e, he => by
    intro hx0 u
    rcases loopF_succ he with ⟨s', h1, h2⟩ | h1
    · refine qM_next_s180 h1 ?_ ?_
      · intro z2 ς ee
        cases ee
        exact lM_next_s180 n z2 ς e h2 hx0
      · intro ς ee
        cases ee
    · refine qM_next_s180 h1 ?_ ?_
      · intro z2 ς ee
        cases ee
      · intro ς ee
        exact hx0 ς (Sum.inr.inj ee)
theorem qM_next_x253 {σ : Mem} {x1 : Int32} {o0 : Option AV} {o2 : Option AV} {res : Int32 × Mem} (hk : kM_next_x253 σ x1 = some res) (hP : Po (some (vI res.1)) (hp res.2)) : J l D dA H0 YM_next h0 Po 0 0 (hp σ) 253 [o0, some (vI x1), o2] [] := by
  unfold kM_next_x253 at hk
  refine j_iload_n (pc' := 254) rfl rfl dX9_next_253 ?_
  obtain rfl := Option.some.inj hk
  exact j_iret rfl ⟨rfl, rfl⟩ dX9_next_254 hP
theorem qM_next_x168 {σ : Mem} {x1 : Int32} {o2 : Option AV} {res : Int32 × Mem} (hk : kM_next_x168 σ x1 = some res) (hP : Po (some (vI res.1)) (hp res.2)) : J l D dA H0 YM_next h0 Po 0 0 (hp σ) 168 [some (vR (some (30, 0))), some (vI x1), o2] [] := by
  unfold kM_next_x168 at hk
  refine j_aload_n (pc' := 169) rfl rfl dX9_next_168 ?_
  refine j_dup (pc' := 170) rfl rfl dX9_next_169 ?_
  refine j_getf (pc' := 173) fg_RX9_158 (hp_e rfl) rfl rfl dX9_next_170 ?_
  refine j_iconst (pc' := 174) (v := 1) rfl rfl dX9_next_173 ?_
  refine j_iadd (pc' := 175) rfl dX9_next_174 ?_
  refine j_pi (pc' := 178) (ty := .int) fg_RX9_158 ttX9 rfl rfl ⟨rfl, rfl⟩ rfl (lt_b rfl) rfl rfl dX9_next_175 ?_
  refine j_iconst (pc' := 179) (v := 0) rfl rfl dX9_next_178 ?_
  refine j_istore_n (pc' := 180) (lt_b rfl) rfl rfl dX9_next_179 ?_
  obtain ⟨e, he, hk⟩ := of_bind hk
  refine lM_next_s180 FU _ _ e he ?_ ()
  · intro ς ee _ _
    subst ee
    exact qM_next_x253 hk hP
theorem qM_next_x62 {σ : Mem} {o1 : Option AV} {o2 : Option AV} {res : Int32 × Mem} (hk : kM_next_x62 σ = some res) (hP : Po (some (vI res.1)) (hp res.2)) : J l D dA H0 YM_next h0 Po 0 0 (hp σ) 62 [some (vR (some (30, 0))), o1, o2] [] := by
  unfold kM_next_x62 at hk
  refine j_aload_n (pc' := 63) rfl rfl dX9_next_62 ?_
  refine j_aload_n (pc' := 64) rfl rfl dX9_next_63 ?_
  refine j_getf (pc' := 67) fg_RX9_158 (hp_e rfl) rfl rfl dX9_next_64 ?_
  obtain ⟨⟨_, σ9⟩, hx, hk⟩ := of_bind hk
  refine j_cv0 (pc' := 70) (LM_plan hx) cv_RX9_161 ⟨le_b rfl, le_b rfl⟩ (hp_e rfl) rfl rfl (le_b rfl) ⟨rfl, rfl⟩ ⟨le_b rfl, le_b rfl⟩ rfl rfl dX9_next_67 ?_
  refine j_iconst (pc' := 71) (v := 0) rfl rfl dX9_next_70 ?_
  refine j_istore_n (pc' := 72) (lt_b rfl) rfl rfl dX9_next_71 ?_
  refine j_iconst (pc' := 73) (v := 0) rfl rfl dX9_next_72 ?_
  refine j_istore_n (pc' := 74) (lt_b rfl) rfl rfl dX9_next_73 ?_
  obtain ⟨e, he, hk⟩ := of_bind hk
  refine lM_next_s74 FU _ _ _ e he ?_ ()
  · intro z1 ς ee _
    subst ee
    exact qM_next_x168 hk hP
theorem qM_next {σ : Mem} {o1 : Option AV} {o2 : Option AV} {res : Int32 × Mem} (hk : kM_next σ = some res) (hP : Po (some (vI res.1)) (hp res.2)) : J l D dA H0 YM_next h0 Po 0 0 (hp σ) 0 [some (vR (some (30, 0))), o1, o2] [] := by
  unfold kM_next at hk
  refine j_aload_n (pc' := 1) rfl rfl dX9_next_0 ?_
  refine j_iconst (pc' := 2) (v := 0) rfl rfl dX9_next_1 ?_
  refine j_pi (pc' := 5) (ty := .int) fg_RX9_1 ttX9 rfl rfl ⟨rfl, rfl⟩ rfl (lt_b rfl) rfl rfl dX9_next_2 ?_
  refine j_aload_n (pc' := 6) rfl rfl dX9_next_5 ?_
  refine j_getf (pc' := 9) fg_RX9_158 (hp_e rfl) rfl rfl dX9_next_6 ?_
  refine j_bipush (pc' := 11) (v := 59) rfl rfl dX9_next_9 ?_
  refine j_ic_ne (pc' := 14) (tg := 16) rfl rfl dX9_next_11 (fun c37 => ?_) (fun c37 => ?_)
  · have hk := (if_neg c37).symm.trans hk
    refine j_iconst (pc' := 17) (v := 0) rfl rfl dX9_next_16 ?_
    refine j_istore_n (pc' := 18) (lt_b rfl) rfl rfl dX9_next_17 ?_
    obtain ⟨e, he, hk⟩ := of_bind hk
    refine lM_next_s18 FU _ _ e he ?_ _
    · intro ς ee _ _
      subst ee
      exact qM_next_x62 hk hP
  · have hk := (if_pos c37).symm.trans hk
    refine j_iconst (pc' := 15) (v := (-1)) rfl rfl dX9_next_14 ?_
    obtain rfl := Option.some.inj hk
    exact j_iret rfl ⟨rfl, rfl⟩ dX9_next_15 hP
theorem LM_next {σ σ' : Mem} {r : Int32} (hk : kM_next σ = some (r, σ')) : M l D dA H0 yX9_next YM_next [vR (some (30, 0))] (hp σ) (fun x h' => x = some (vI r) ∧ h' = hp σ') :=
  m_of (j := 2) (by decide) rfl (fun hh => by cases hh) ⟨fun _ _ => trivial, rfl⟩ (le_b rfl) (qM_next hk ⟨rfl, rfl⟩)
end LINK
