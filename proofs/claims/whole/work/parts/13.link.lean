section LINK
variable {l : Launch} {D : va_G} {dA : Nat → ClassId} {H0 : Heap} {h0 : Hx} {Po : Option AV → Hp → Prop}
theorem qB_at {σ : Mem} {x1 : Int32} {res : Option Nat × Mem} (hk : kB_at σ x1 = some res) (hP : Po (some (vR (res.1.map (Prod.mk 21)))) (hp res.2)) : J l D dA H0 YB_at h0 Po 0 0 (hp σ) 0 [some (vR (some (5, 0))), some (vI x1)] [] := by
  unfold kB_at at hk
  refine j_iload_n (pc' := 1) rfl rfl dX0_at_0 ?_
  refine j_if_lt (pc' := 4) (tg := 27) rfl rfl dX0_at_1 (fun c5 => ?_) (fun c5 => ?_)
  · have hk := (if_pos c5).symm.trans hk
    refine j_null (pc' := 28) rfl dX0_at_27 ?_
    obtain rfl := Option.some.inj hk
    exact j_aret rfl ⟨rfl, rfl⟩ dX0_at_28 hP
  · have hk := (if_neg c5).symm.trans hk
    refine j_iload_n (pc' := 5) rfl rfl dX0_at_4 ?_
    refine j_aload_n (pc' := 6) rfl rfl dX0_at_5 ?_
    refine j_getf (pc' := 9) fg_RX0_17 (hp_e rfl) rfl rfl dX0_at_6 ?_
    refine j_ic_ge (pc' := 12) (tg := 27) rfl rfl dX0_at_9 (fun c4 => ?_) (fun c4 => ?_)
    · have hk := (if_pos c4).symm.trans hk
      refine j_null (pc' := 28) rfl dX0_at_27 ?_
      obtain rfl := Option.some.inj hk
      exact j_aret rfl ⟨rfl, rfl⟩ dX0_at_28 hP
    · have hk := (if_neg c4).symm.trans hk
      refine j_iload_n (pc' := 13) rfl rfl dX0_at_12 ?_
      refine j_bipush (pc' := 15) (v := 40) rfl rfl dX0_at_13 ?_
      refine j_ic_ge (pc' := 18) (tg := 27) rfl rfl dX0_at_15 (fun c3 => ?_) (fun c3 => ?_)
      · have hk := (if_pos c3).symm.trans hk
        refine j_null (pc' := 28) rfl dX0_at_27 ?_
        obtain rfl := Option.some.inj hk
        exact j_aret rfl ⟨rfl, rfl⟩ dX0_at_28 hP
      · have hk := (if_neg c3).symm.trans hk
        refine j_aload_n (pc' := 19) rfl rfl dX0_at_18 ?_
        refine j_getf (pc' := 22) fg_RX0_11 (hp_e rfl) rfl rfl dX0_at_19 ?_
        refine j_iload_n (pc' := 23) rfl rfl dX0_at_22 ?_
        obtain ⟨g1, hk⟩ := of_ite hk
        refine j_aald (pc' := 24) ⟨le_b rfl, lt_b rfl⟩ (hp_e rfl) (inR_in g1) rfl dX0_at_23 ?_
        rcases of_elim hk with ⟨hr, hk⟩ | ⟨j2, hr, hk⟩
        · refine j_top (v' := vR none) (congrArg (fun o => vR (Option.map (Prod.mk 21) o)) hr) ?_
          refine j_goto (tg := 28) rfl dX0_at_24 ?_
          obtain rfl := Option.some.inj hk
          exact j_aret rfl ⟨rfl, rfl⟩ dX0_at_28 hP
        · refine j_top (v' := vR (some (21, j2))) (congrArg (fun o => vR (Option.map (Prod.mk 21) o)) hr) ?_
          refine j_goto (tg := 28) rfl dX0_at_24 ?_
          obtain rfl := Option.some.inj hk
          exact j_aret rfl ⟨rfl, rfl⟩ dX0_at_28 hP
theorem LB_at {σ σ' : Mem} {x1 : Int32} {r : Option Nat} (hk : kB_at σ x1 = some (r, σ')) : M l D dA H0 yX0_at YB_at [vR (some (5, 0)), vI x1] (hp σ) (fun x h' => x = some (vR (r.map (Prod.mk 21))) ∧ h' = hp σ') :=
  m_of (j := 0) (by decide) rfl (fun hh => by cases hh) ⟨fun _ _ => trivial, rfl⟩ (le_b rfl) (qB_at hk ⟨rfl, rfl⟩)
theorem qB_isFull {σ : Mem} {res : Int32 × Mem} (hk : kB_isFull σ = some res) (hP : Po (some (vI res.1)) (hp res.2)) : J l D dA H0 YB_isFull h0 Po 0 0 (hp σ) 0 [some (vR (some (5, 0)))] [] := by
  unfold kB_isFull at hk
  refine j_aload_n (pc' := 1) rfl rfl dX0_isFull_0 ?_
  refine j_getf (pc' := 4) fg_RX0_17 (hp_e rfl) rfl rfl dX0_isFull_1 ?_
  refine j_bipush (pc' := 6) (v := 40) rfl rfl dX0_isFull_4 ?_
  refine j_ic_lt (pc' := 9) (tg := 13) rfl rfl dX0_isFull_6 (fun c1 => ?_) (fun c1 => ?_)
  · have hk := (if_pos c1).symm.trans hk
    refine j_iconst (pc' := 14) (v := 0) rfl rfl dX0_isFull_13 ?_
    obtain rfl := Option.some.inj hk
    exact j_zret rfl rfl ⟨rfl, rfl⟩ dX0_isFull_14 hP
  · have hk := (if_neg c1).symm.trans hk
    refine j_iconst (pc' := 10) (v := 1) rfl rfl dX0_isFull_9 ?_
    refine j_goto (tg := 14) rfl dX0_isFull_10 ?_
    obtain rfl := Option.some.inj hk
    exact j_zret rfl rfl ⟨rfl, rfl⟩ dX0_isFull_14 hP
theorem LB_isFull {σ σ' : Mem} {r : Int32} (hk : kB_isFull σ = some (r, σ')) : M l D dA H0 yX0_isFull YB_isFull [vR (some (5, 0))] (hp σ) (fun x h' => x = some (vI r) ∧ h' = hp σ') :=
  m_of (j := 0) (by decide) rfl (fun hh => by cases hh) ⟨fun _ _ => trivial, rfl⟩ (le_b rfl) (qB_isFull hk ⟨rfl, rfl⟩)
theorem qB_enter {σ : Mem} {x1 : Nat} {res : Int32 × Mem} (hk : kB_enter σ x1 = some res) (hP : Po (some (vI res.1)) (hp res.2)) : J l D dA H0 YB_enter h0 Po 0 0 (hp σ) 0 [some (vR (some (5, 0))), some (vR (some (21, x1)))] [] := by
  unfold kB_enter at hk
  refine j_aload_n (pc' := 1) rfl rfl dX0_enter_0 ?_
  refine j_getf (pc' := 4) fg_RX0_17 (hp_e rfl) rfl rfl dX0_enter_1 ?_
  refine j_if_lt (pc' := 7) (tg := 16) rfl rfl dX0_enter_4 (fun c3 => ?_) (fun c3 => ?_)
  · have hk := (if_pos c3).symm.trans hk
    refine j_iconst (pc' := 17) (v := (-1)) rfl rfl dX0_enter_16 ?_
    obtain rfl := Option.some.inj hk
    exact j_iret rfl ⟨rfl, rfl⟩ dX0_enter_17 hP
  · have hk := (if_neg c3).symm.trans hk
    refine j_aload_n (pc' := 8) rfl rfl dX0_enter_7 ?_
    refine j_getf (pc' := 11) fg_RX0_17 (hp_e rfl) rfl rfl dX0_enter_8 ?_
    refine j_bipush (pc' := 13) (v := 40) rfl rfl dX0_enter_11 ?_
    refine j_ic_lt (pc' := 16) (tg := 18) rfl rfl dX0_enter_13 (fun c2 => ?_) (fun c2 => ?_)
    · have hk := (if_pos c2).symm.trans hk
      refine j_aload_n (pc' := 19) rfl rfl dX0_enter_18 ?_
      refine j_getf (pc' := 22) fg_RX0_11 (hp_e rfl) rfl rfl dX0_enter_19 ?_
      refine j_aload_n (pc' := 23) rfl rfl dX0_enter_22 ?_
      refine j_getf (pc' := 26) fg_RX0_17 (hp_e rfl) rfl rfl dX0_enter_23 ?_
      refine j_aload_n (pc' := 27) rfl rfl dX0_enter_26 ?_
      obtain ⟨g1, hk⟩ := of_ite hk
      refine j_sr (pc' := 28) (le_b rfl) rfl (fun _ _ _ => rfl) rfl rfl (inR_in g1) rfl dX0_enter_27 ?_
      refine j_aload_n (pc' := 29) rfl rfl dX0_enter_28 ?_
      refine j_dup (pc' := 30) rfl rfl dX0_enter_29 ?_
      refine j_getf (pc' := 33) fg_RX0_17 (hp_e rfl) rfl rfl dX0_enter_30 ?_
      refine j_iconst (pc' := 34) (v := 1) rfl rfl dX0_enter_33 ?_
      refine j_iadd (pc' := 35) rfl dX0_enter_34 ?_
      refine j_pi (pc' := 38) (ty := .int) fg_RX0_17 ttX0 rfl rfl ⟨rfl, rfl⟩ rfl (lt_b rfl) rfl rfl dX0_enter_35 ?_
      refine j_aload_n (pc' := 39) rfl rfl dX0_enter_38 ?_
      refine j_getf (pc' := 42) fg_RX0_17 (hp_e rfl) rfl rfl dX0_enter_39 ?_
      refine j_iconst (pc' := 43) (v := 1) rfl rfl dX0_enter_42 ?_
      refine j_isub (pc' := 44) rfl dX0_enter_43 ?_
      obtain rfl := Option.some.inj hk
      exact j_iret rfl ⟨rfl, rfl⟩ dX0_enter_44 hP
    · have hk := (if_neg c2).symm.trans hk
      refine j_iconst (pc' := 17) (v := (-1)) rfl rfl dX0_enter_16 ?_
      obtain rfl := Option.some.inj hk
      exact j_iret rfl ⟨rfl, rfl⟩ dX0_enter_17 hP
theorem LB_enter {σ σ' : Mem} {x1 : Nat} {r : Int32} (hk : kB_enter σ x1 = some (r, σ')) : M l D dA H0 yX0_enter YB_enter [vR (some (5, 0)), vR (some (21, x1))] (hp σ) (fun x h' => x = some (vI r) ∧ h' = hp σ') :=
  m_of (j := 0) (by decide) rfl (fun hh => by cases hh) ⟨fun _ _ => trivial, rfl⟩ (le_b rfl) (qB_enter hk ⟨rfl, rfl⟩)
theorem qQ_stands {σ : Mem} {x0 : Nat} {res : Int32 × Mem} (hk : kQ_stands σ x0 = some res) (hP : Po (some (vI res.1)) (hp res.2)) : J l D dA H0 YQ_stands h0 Po 0 0 (hp σ) 0 [some (vR (some (21, x0)))] [] := by
  unfold kQ_stands at hk
  refine j_aload_n (pc' := 1) rfl rfl dX3_stands_0 ?_
  refine j_getf (pc' := 4) fg_RX3_25 (hp_e rfl) rfl rfl dX3_stands_1 ?_
  refine j_if_eq (pc' := 7) (tg := 23) rfl rfl dX3_stands_4 (fun c3 => ?_) (fun c3 => ?_)
  · have hk := (if_pos c3).symm.trans hk
    refine j_iconst (pc' := 24) (v := 1) rfl rfl dX3_stands_23 ?_
    refine j_goto (tg := 28) rfl dX3_stands_24 ?_
    obtain rfl := Option.some.inj hk
    exact j_zret rfl rfl ⟨rfl, rfl⟩ dX3_stands_28 hP
  · have hk := (if_neg c3).symm.trans hk
    refine j_aload_n (pc' := 8) rfl rfl dX3_stands_7 ?_
    refine j_getf (pc' := 11) fg_RX3_25 (hp_e rfl) rfl rfl dX3_stands_8 ?_
    refine j_iconst (pc' := 12) (v := 1) rfl rfl dX3_stands_11 ?_
    refine j_ic_eq (pc' := 15) (tg := 23) rfl rfl dX3_stands_12 (fun c2 => ?_) (fun c2 => ?_)
    · have hk := (if_pos c2).symm.trans hk
      refine j_iconst (pc' := 24) (v := 1) rfl rfl dX3_stands_23 ?_
      refine j_goto (tg := 28) rfl dX3_stands_24 ?_
      obtain rfl := Option.some.inj hk
      exact j_zret rfl rfl ⟨rfl, rfl⟩ dX3_stands_28 hP
    · have hk := (if_neg c2).symm.trans hk
      refine j_aload_n (pc' := 16) rfl rfl dX3_stands_15 ?_
      refine j_getf (pc' := 19) fg_RX3_25 (hp_e rfl) rfl rfl dX3_stands_16 ?_
      refine j_iconst (pc' := 20) (v := 2) rfl rfl dX3_stands_19 ?_
      refine j_ic_ne (pc' := 23) (tg := 27) rfl rfl dX3_stands_20 (fun c1 => ?_) (fun c1 => ?_)
      · have hk := (if_neg c1).symm.trans hk
        refine j_iconst (pc' := 28) (v := 0) rfl rfl dX3_stands_27 ?_
        obtain rfl := Option.some.inj hk
        exact j_zret rfl rfl ⟨rfl, rfl⟩ dX3_stands_28 hP
      · have hk := (if_pos c1).symm.trans hk
        refine j_iconst (pc' := 24) (v := 1) rfl rfl dX3_stands_23 ?_
        refine j_goto (tg := 28) rfl dX3_stands_24 ?_
        obtain rfl := Option.some.inj hk
        exact j_zret rfl rfl ⟨rfl, rfl⟩ dX3_stands_28 hP
theorem LQ_stands {σ σ' : Mem} {x0 : Nat} {r : Int32} (hk : kQ_stands σ x0 = some (r, σ')) : M l D dA H0 yX3_stands YQ_stands [vR (some (21, x0))] (hp σ) (fun x h' => x = some (vI r) ∧ h' = hp σ') :=
  m_of (j := 0) (by decide) rfl (fun hh => by cases hh) ⟨fun _ _ => trivial, rfl⟩ (le_b rfl) (qQ_stands hk ⟨rfl, rfl⟩)
theorem qB_standingCount_s4 {σ : Mem} {x1 : Int32} {x2 : Int32} {o3 : Option AV} {out : (Int32 × Int32 × Mem) ⊕ (Int32 × Mem)} (hk : kB_standingCount_s4 (x1, x2, σ) = some out) (hc : ∀ (z1 : Int32) (z2 : Int32) (ς : Mem), out = .inl (z1, z2, ς) → ∀ (o3 : Option AV), J l D dA H0 YB_standingCount h0 Po 0 0 (hp ς) 4 [some (vR (some (5, 0))), some (vI z1), some (vI z2), o3] []) (hx0 : ∀ (z1 : Int32) (ς : Mem), out = .inr (z1, ς) → ∀ (o0 o2 o3 : Option AV), J l D dA H0 YB_standingCount h0 Po 0 0 (hp ς) 43 [o0, some (vI z1), o2, o3] []) : J l D dA H0 YB_standingCount h0 Po 0 0 (hp σ) 4 [some (vR (some (5, 0))), some (vI x1), some (vI x2), o3] [] := by
  unfold kB_standingCount_s4 at hk
  refine j_iload_n (pc' := 5) rfl rfl dX0_standingCount_4 ?_
  refine j_aload_n (pc' := 6) rfl rfl dX0_standingCount_5 ?_
  refine j_getf (pc' := 9) fg_RX0_17 (hp_e rfl) rfl rfl dX0_standingCount_6 ?_
  refine j_ic_ge (pc' := 12) (tg := 43) rfl rfl dX0_standingCount_9 (fun c7 => ?_) (fun c7 => ?_)
  · have hk := (if_pos c7).symm.trans hk
    obtain rfl := Option.some.inj hk
    exact hx0 _ _ rfl _ _ _
  · have hk := (if_neg c7).symm.trans hk
    refine j_aload_n (pc' := 13) rfl rfl dX0_standingCount_12 ?_
    refine j_iload_n (pc' := 14) rfl rfl dX0_standingCount_13 ?_
    obtain ⟨⟨r1, σ2⟩, hx, hk⟩ := of_bind hk
    refine j_cv1 (pc' := 17) (LB_at hx) cv_RX0_21 ⟨le_b rfl, le_b rfl⟩ (hp_e rfl) rfl rfl (le_b rfl) ⟨rfl, rfl⟩ ⟨le_b rfl, le_b rfl⟩ rfl rfl dX0_standingCount_14 ?_
    refine j_astore_n (pc' := 18) (lt_b rfl) rfl rfl dX0_standingCount_17 ?_
    refine j_iload_n (pc' := 19) rfl rfl dX0_standingCount_18 ?_
    refine j_aload_n (pc' := 20) rfl rfl dX0_standingCount_19 ?_
    rcases of_elim hk with ⟨hr, hk⟩ | ⟨j3, hr, hk⟩
    · subst hr
      refine j_ifnull (pc' := 23) (tg := 34) rfl rfl dX0_standingCount_20 (fun _ => ?_) (fun _ hh => by cases hh)
      refine j_iconst (pc' := 35) (v := 0) rfl rfl dX0_standingCount_34 ?_
      refine j_iadd (pc' := 36) rfl dX0_standingCount_35 ?_
      refine j_istore_n (pc' := 37) (lt_b rfl) rfl rfl dX0_standingCount_36 ?_
      refine j_iinc (pc' := 40) (v := x2 + 1) rfl rfl (lt_b rfl) rfl rfl dX0_standingCount_37 ?_
      refine j_goto (tg := 4) rfl dX0_standingCount_40 ?_
      obtain rfl := Option.some.inj hk
      exact hc _ _ _ rfl _
    · subst hr
      refine j_ifnull (pc' := 23) (tg := 34) rfl rfl dX0_standingCount_20 (fun hh => by cases hh) (fun _ _ => ?_)
      refine j_aload_n (pc' := 24) rfl rfl dX0_standingCount_23 ?_
      obtain ⟨⟨r4, σ5⟩, hx, hk⟩ := of_bind hk
      refine j_cv1 (pc' := 27) (LQ_stands hx) cv_RX0_25 ⟨le_b rfl, le_b rfl⟩ (hp_e rfl) rfl rfl (le_b rfl) ⟨rfl, rfl⟩ ⟨le_b rfl, le_b rfl⟩ rfl rfl dX0_standingCount_24 ?_
      refine j_if_eq (pc' := 30) (tg := 34) rfl rfl dX0_standingCount_27 (fun c6 => ?_) (fun c6 => ?_)
      · have hk := (if_pos c6).symm.trans hk
        refine j_iconst (pc' := 35) (v := 0) rfl rfl dX0_standingCount_34 ?_
        refine j_iadd (pc' := 36) rfl dX0_standingCount_35 ?_
        refine j_istore_n (pc' := 37) (lt_b rfl) rfl rfl dX0_standingCount_36 ?_
        refine j_iinc (pc' := 40) (v := x2 + 1) rfl rfl (lt_b rfl) rfl rfl dX0_standingCount_37 ?_
        refine j_goto (tg := 4) rfl dX0_standingCount_40 ?_
        obtain rfl := Option.some.inj hk
        exact hc _ _ _ rfl _
      · have hk := (if_neg c6).symm.trans hk
        refine j_iconst (pc' := 31) (v := 1) rfl rfl dX0_standingCount_30 ?_
        refine j_goto (tg := 35) rfl dX0_standingCount_31 ?_
        refine j_iadd (pc' := 36) rfl dX0_standingCount_35 ?_
        refine j_istore_n (pc' := 37) (lt_b rfl) rfl rfl dX0_standingCount_36 ?_
        refine j_iinc (pc' := 40) (v := x2 + 1) rfl rfl (lt_b rfl) rfl rfl dX0_standingCount_37 ?_
        refine j_goto (tg := 4) rfl dX0_standingCount_40 ?_
        obtain rfl := Option.some.inj hk
        exact hc _ _ _ rfl _
theorem lB_standingCount_s4 : ∀ (n : Nat) (x1 : Int32) (x2 : Int32) (σ : Mem) (e : (Int32 × Mem)), loopF n (kB_standingCount_s4) (x1, x2, σ) = some e → (∀ (z1 : Int32) (ς : Mem), e = (z1, ς) → ∀ (o0 o2 o3 : Option AV), J l D dA H0 YB_standingCount h0 Po 0 0 (hp ς) 43 [o0, some (vI z1), o2, o3] []) → ∀ (o3 : Option AV), J l D dA H0 YB_standingCount h0 Po 0 0 (hp σ) 4 [some (vR (some (5, 0))), some (vI x1), some (vI x2), o3] []
  | 0, x1, x2, σ, e, he => by cases he
  | n + 1, x1, x2, σ, e, he => by
    intro hx0 o3
    rcases loopF_succ he with ⟨s', h1, h2⟩ | h1
    · refine qB_standingCount_s4 h1 ?_ ?_
      · intro z1 z2 ς ee
        cases ee
        exact lB_standingCount_s4 n z1 z2 ς e h2 hx0
      · intro z1 ς ee
        cases ee
    · refine qB_standingCount_s4 h1 ?_ ?_
      · intro z1 z2 ς ee
        cases ee
      · intro z1 ς ee
        exact hx0 z1 ς (Sum.inr.inj ee)
theorem qB_standingCount_x43 {σ : Mem} {x1 : Int32} {o0 : Option AV} {o2 : Option AV} {o3 : Option AV} {res : Int32 × Mem} (hk : kB_standingCount_x43 σ x1 = some res) (hP : Po (some (vI res.1)) (hp res.2)) : J l D dA H0 YB_standingCount h0 Po 0 0 (hp σ) 43 [o0, some (vI x1), o2, o3] [] := by
  unfold kB_standingCount_x43 at hk
  refine j_iload_n (pc' := 44) rfl rfl dX0_standingCount_43 ?_
  obtain rfl := Option.some.inj hk
  exact j_iret rfl ⟨rfl, rfl⟩ dX0_standingCount_44 hP
theorem qB_standingCount {σ : Mem} {o1 : Option AV} {o2 : Option AV} {o3 : Option AV} {res : Int32 × Mem} (hk : kB_standingCount σ = some res) (hP : Po (some (vI res.1)) (hp res.2)) : J l D dA H0 YB_standingCount h0 Po 0 0 (hp σ) 0 [some (vR (some (5, 0))), o1, o2, o3] [] := by
  unfold kB_standingCount at hk
  refine j_iconst (pc' := 1) (v := 0) rfl rfl dX0_standingCount_0 ?_
  refine j_istore_n (pc' := 2) (lt_b rfl) rfl rfl dX0_standingCount_1 ?_
  refine j_iconst (pc' := 3) (v := 0) rfl rfl dX0_standingCount_2 ?_
  refine j_istore_n (pc' := 4) (lt_b rfl) rfl rfl dX0_standingCount_3 ?_
  obtain ⟨e, he, hk⟩ := of_bind hk
  refine lB_standingCount_s4 FU _ _ _ e he ?_ _
  · intro z1 ς ee _ _ _
    subst ee
    exact qB_standingCount_x43 hk hP
theorem LB_standingCount {σ σ' : Mem} {r : Int32} (hk : kB_standingCount σ = some (r, σ')) : M l D dA H0 yX0_standingCount YB_standingCount [vR (some (5, 0))] (hp σ) (fun x h' => x = some (vI r) ∧ h' = hp σ') :=
  m_of (j := 3) (by decide) rfl (fun hh => by cases hh) ⟨fun _ _ => trivial, rfl⟩ (le_b rfl) (qB_standingCount hk ⟨rfl, rfl⟩)
theorem qQ_isAhead {σ : Mem} {x0 : Nat} {res : Int32 × Mem} (hk : kQ_isAhead σ x0 = some res) (hP : Po (some (vI res.1)) (hp res.2)) : J l D dA H0 YQ_isAhead h0 Po 0 0 (hp σ) 0 [some (vR (some (21, x0)))] [] := by
  unfold kQ_isAhead at hk
  refine j_aload_n (pc' := 1) rfl rfl dX3_isAhead_0 ?_
  refine j_getf (pc' := 4) fg_RX3_25 (hp_e rfl) rfl rfl dX3_isAhead_1 ?_
  refine j_if_eq (pc' := 7) (tg := 15) rfl rfl dX3_isAhead_4 (fun c2 => ?_) (fun c2 => ?_)
  · have hk := (if_pos c2).symm.trans hk
    refine j_iconst (pc' := 16) (v := 1) rfl rfl dX3_isAhead_15 ?_
    refine j_goto (tg := 20) rfl dX3_isAhead_16 ?_
    obtain rfl := Option.some.inj hk
    exact j_zret rfl rfl ⟨rfl, rfl⟩ dX3_isAhead_20 hP
  · have hk := (if_neg c2).symm.trans hk
    refine j_aload_n (pc' := 8) rfl rfl dX3_isAhead_7 ?_
    refine j_getf (pc' := 11) fg_RX3_25 (hp_e rfl) rfl rfl dX3_isAhead_8 ?_
    refine j_iconst (pc' := 12) (v := 1) rfl rfl dX3_isAhead_11 ?_
    refine j_ic_ne (pc' := 15) (tg := 19) rfl rfl dX3_isAhead_12 (fun c1 => ?_) (fun c1 => ?_)
    · have hk := (if_neg c1).symm.trans hk
      refine j_iconst (pc' := 20) (v := 0) rfl rfl dX3_isAhead_19 ?_
      obtain rfl := Option.some.inj hk
      exact j_zret rfl rfl ⟨rfl, rfl⟩ dX3_isAhead_20 hP
    · have hk := (if_pos c1).symm.trans hk
      refine j_iconst (pc' := 16) (v := 1) rfl rfl dX3_isAhead_15 ?_
      refine j_goto (tg := 20) rfl dX3_isAhead_16 ?_
      obtain rfl := Option.some.inj hk
      exact j_zret rfl rfl ⟨rfl, rfl⟩ dX3_isAhead_20 hP
theorem LQ_isAhead {σ σ' : Mem} {x0 : Nat} {r : Int32} (hk : kQ_isAhead σ x0 = some (r, σ')) : M l D dA H0 yX3_isAhead YQ_isAhead [vR (some (21, x0))] (hp σ) (fun x h' => x = some (vI r) ∧ h' = hp σ') :=
  m_of (j := 0) (by decide) rfl (fun hh => by cases hh) ⟨fun _ _ => trivial, rfl⟩ (le_b rfl) (qQ_isAhead hk ⟨rfl, rfl⟩)
theorem qQ_covers {σ : Mem} {x0 : Nat} {x1 : Int32} {res : Int32 × Mem} (hk : kQ_covers σ x0 x1 = some res) (hP : Po (some (vI res.1)) (hp res.2)) : J l D dA H0 YQ_covers h0 Po 0 0 (hp σ) 0 [some (vR (some (21, x0))), some (vI x1)] [] := by
  unfold kQ_covers at hk
  refine j_aload_n (pc' := 1) rfl rfl dX3_covers_0 ?_
  refine j_getf (pc' := 4) fg_RX3_34 (hp_e rfl) rfl rfl dX3_covers_1 ?_
  refine j_iload_n (pc' := 5) rfl rfl dX3_covers_4 ?_
  refine j_ic_gt (pc' := 8) (tg := 20) rfl rfl dX3_covers_5 (fun c2 => ?_) (fun c2 => ?_)
  · have hk := (if_pos c2).symm.trans hk
    refine j_iconst (pc' := 21) (v := 0) rfl rfl dX3_covers_20 ?_
    obtain rfl := Option.some.inj hk
    exact j_zret rfl rfl ⟨rfl, rfl⟩ dX3_covers_21 hP
  · have hk := (if_neg c2).symm.trans hk
    refine j_iload_n (pc' := 9) rfl rfl dX3_covers_8 ?_
    refine j_aload_n (pc' := 10) rfl rfl dX3_covers_9 ?_
    refine j_getf (pc' := 13) fg_RX3_37 (hp_e rfl) rfl rfl dX3_covers_10 ?_
    refine j_ic_ge (pc' := 16) (tg := 20) rfl rfl dX3_covers_13 (fun c1 => ?_) (fun c1 => ?_)
    · have hk := (if_pos c1).symm.trans hk
      refine j_iconst (pc' := 21) (v := 0) rfl rfl dX3_covers_20 ?_
      obtain rfl := Option.some.inj hk
      exact j_zret rfl rfl ⟨rfl, rfl⟩ dX3_covers_21 hP
    · have hk := (if_neg c1).symm.trans hk
      refine j_iconst (pc' := 17) (v := 1) rfl rfl dX3_covers_16 ?_
      refine j_goto (tg := 21) rfl dX3_covers_17 ?_
      obtain rfl := Option.some.inj hk
      exact j_zret rfl rfl ⟨rfl, rfl⟩ dX3_covers_21 hP
theorem LQ_covers {σ σ' : Mem} {x0 : Nat} {x1 : Int32} {r : Int32} (hk : kQ_covers σ x0 x1 = some (r, σ')) : M l D dA H0 yX3_covers YQ_covers [vR (some (21, x0)), vI x1] (hp σ) (fun x h' => x = some (vI r) ∧ h' = hp σ') :=
  m_of (j := 0) (by decide) rfl (fun hh => by cases hh) ⟨fun _ _ => trivial, rfl⟩ (le_b rfl) (qQ_covers hk ⟨rfl, rfl⟩)
theorem qB_missNight_s2 {σ : Mem} {x1 : Int32} {x2 : Int32} {o3 : Option AV} {out : (Int32 × Mem) ⊕ (Mem)} (hk : kB_missNight_s2 x1 (x2, σ) = some out) (hc : ∀ (z2 : Int32) (ς : Mem), out = .inl (z2, ς) → ∀ (o3 : Option AV), J l D dA H0 YB_missNight h0 Po 0 0 (hp ς) 2 [some (vR (some (5, 0))), some (vI x1), some (vI z2), o3] []) (hx0 : ∀ (ς : Mem), out = .inr ς → ∀ (o0 o1 o2 o3 : Option AV), J l D dA H0 YB_missNight h0 Po 0 0 (hp ς) 47 [o0, o1, o2, o3] []) : J l D dA H0 YB_missNight h0 Po 0 0 (hp σ) 2 [some (vR (some (5, 0))), some (vI x1), some (vI x2), o3] [] := by
  unfold kB_missNight_s2 at hk
  refine j_iload_n (pc' := 3) rfl rfl dX0_missNight_2 ?_
  refine j_aload_n (pc' := 4) rfl rfl dX0_missNight_3 ?_
  refine j_getf (pc' := 7) fg_RX0_17 (hp_e rfl) rfl rfl dX0_missNight_4 ?_
  refine j_ic_ge (pc' := 10) (tg := 47) rfl rfl dX0_missNight_7 (fun c10 => ?_) (fun c10 => ?_)
  · have hk := (if_pos c10).symm.trans hk
    obtain rfl := Option.some.inj hk
    exact hx0 _ rfl _ _ _ _
  · have hk := (if_neg c10).symm.trans hk
    refine j_aload_n (pc' := 11) rfl rfl dX0_missNight_10 ?_
    refine j_iload_n (pc' := 12) rfl rfl dX0_missNight_11 ?_
    obtain ⟨⟨r1, σ2⟩, hx, hk⟩ := of_bind hk
    refine j_cv1 (pc' := 15) (LB_at hx) cv_RX0_21 ⟨le_b rfl, le_b rfl⟩ (hp_e rfl) rfl rfl (le_b rfl) ⟨rfl, rfl⟩ ⟨le_b rfl, le_b rfl⟩ rfl rfl dX0_missNight_12 ?_
    refine j_astore_n (pc' := 16) (lt_b rfl) rfl rfl dX0_missNight_15 ?_
    refine j_aload_n (pc' := 17) rfl rfl dX0_missNight_16 ?_
    rcases of_elim hk with ⟨hr, hk⟩ | ⟨j3, hr, hk⟩
    · subst hr
      refine j_ifnull (pc' := 20) (tg := 41) rfl rfl dX0_missNight_17 (fun _ => ?_) (fun _ hh => by cases hh)
      refine j_iinc (pc' := 44) (v := x2 + 1) rfl rfl (lt_b rfl) rfl rfl dX0_missNight_41 ?_
      refine j_goto (tg := 2) rfl dX0_missNight_44 ?_
      obtain rfl := Option.some.inj hk
      exact hc _ _ rfl _
    · subst hr
      refine j_ifnull (pc' := 20) (tg := 41) rfl rfl dX0_missNight_17 (fun hh => by cases hh) (fun _ _ => ?_)
      refine j_aload_n (pc' := 21) rfl rfl dX0_missNight_20 ?_
      obtain ⟨⟨r4, σ5⟩, hx, hk⟩ := of_bind hk
      refine j_cv1 (pc' := 24) (LQ_isAhead hx) cv_RX0_29 ⟨le_b rfl, le_b rfl⟩ (hp_e rfl) rfl rfl (le_b rfl) ⟨rfl, rfl⟩ ⟨le_b rfl, le_b rfl⟩ rfl rfl dX0_missNight_21 ?_
      refine j_if_eq (pc' := 27) (tg := 41) rfl rfl dX0_missNight_24 (fun c9 => ?_) (fun c9 => ?_)
      · have hk := (if_pos c9).symm.trans hk
        refine j_iinc (pc' := 44) (v := x2 + 1) rfl rfl (lt_b rfl) rfl rfl dX0_missNight_41 ?_
        refine j_goto (tg := 2) rfl dX0_missNight_44 ?_
        obtain rfl := Option.some.inj hk
        exact hc _ _ rfl _
      · have hk := (if_neg c9).symm.trans hk
        refine j_aload_n (pc' := 28) rfl rfl dX0_missNight_27 ?_
        refine j_iload_n (pc' := 29) rfl rfl dX0_missNight_28 ?_
        obtain ⟨⟨r6, σ7⟩, hx, hk⟩ := of_bind hk
        refine j_cv1 (pc' := 32) (LQ_covers hx) cv_RX0_32 ⟨le_b rfl, le_b rfl⟩ (hp_e rfl) rfl rfl (le_b rfl) ⟨rfl, rfl⟩ ⟨le_b rfl, le_b rfl⟩ rfl rfl dX0_missNight_29 ?_
        refine j_if_eq (pc' := 35) (tg := 41) rfl rfl dX0_missNight_32 (fun c8 => ?_) (fun c8 => ?_)
        · have hk := (if_pos c8).symm.trans hk
          refine j_iinc (pc' := 44) (v := x2 + 1) rfl rfl (lt_b rfl) rfl rfl dX0_missNight_41 ?_
          refine j_goto (tg := 2) rfl dX0_missNight_44 ?_
          obtain rfl := Option.some.inj hk
          exact hc _ _ rfl _
        · have hk := (if_neg c8).symm.trans hk
          refine j_aload_n (pc' := 36) rfl rfl dX0_missNight_35 ?_
          refine j_bipush (pc' := 38) (v := 6) rfl rfl dX0_missNight_36 ?_
          refine j_pi (pc' := 41) (ty := .int) fg_RX0_36 ttX3 rfl rfl ⟨rfl, rfl⟩ rfl (lt_b rfl) rfl rfl dX0_missNight_38 ?_
          refine j_iinc (pc' := 44) (v := x2 + 1) rfl rfl (lt_b rfl) rfl rfl dX0_missNight_41 ?_
          refine j_goto (tg := 2) rfl dX0_missNight_44 ?_
          obtain rfl := Option.some.inj hk
          exact hc _ _ rfl _
theorem lB_missNight_s2 {x1 : Int32} : ∀ (n : Nat) (x2 : Int32) (σ : Mem) (e : (Mem)), loopF n (kB_missNight_s2 x1) (x2, σ) = some e → (∀ (ς : Mem), e = ς → ∀ (o0 o1 o2 o3 : Option AV), J l D dA H0 YB_missNight h0 Po 0 0 (hp ς) 47 [o0, o1, o2, o3] []) → ∀ (o3 : Option AV), J l D dA H0 YB_missNight h0 Po 0 0 (hp σ) 2 [some (vR (some (5, 0))), some (vI x1), some (vI x2), o3] []
  | 0, x2, σ, e, he => by cases he
  | n + 1, x2, σ, e, he => by
    intro hx0 o3
    rcases loopF_succ he with ⟨s', h1, h2⟩ | h1
    · refine qB_missNight_s2 h1 ?_ ?_
      · intro z2 ς ee
        cases ee
        exact lB_missNight_s2 n z2 ς e h2 hx0
      · intro ς ee
        cases ee
    · refine qB_missNight_s2 h1 ?_ ?_
      · intro z2 ς ee
        cases ee
      · intro ς ee
        exact hx0 ς (Sum.inr.inj ee)
theorem qB_missNight_x47 {σ : Mem} {o0 : Option AV} {o1 : Option AV} {o2 : Option AV} {o3 : Option AV} {res : Unit × Mem} (hk : kB_missNight_x47 σ = some res) (hP : Po none (hp res.2)) : J l D dA H0 YB_missNight h0 Po 0 0 (hp σ) 47 [o0, o1, o2, o3] [] := by
  unfold kB_missNight_x47 at hk
  obtain rfl := Option.some.inj hk
  exact j_ret rfl ⟨rfl, rfl⟩ dX0_missNight_47 hP
theorem qB_missNight {σ : Mem} {x1 : Int32} {o2 : Option AV} {o3 : Option AV} {res : Unit × Mem} (hk : kB_missNight σ x1 = some res) (hP : Po none (hp res.2)) : J l D dA H0 YB_missNight h0 Po 0 0 (hp σ) 0 [some (vR (some (5, 0))), some (vI x1), o2, o3] [] := by
  unfold kB_missNight at hk
  refine j_iconst (pc' := 1) (v := 0) rfl rfl dX0_missNight_0 ?_
  refine j_istore_n (pc' := 2) (lt_b rfl) rfl rfl dX0_missNight_1 ?_
  obtain ⟨e, he, hk⟩ := of_bind hk
  refine lB_missNight_s2 FU _ _ e he ?_ _
  · intro ς ee _ _ _ _
    subst ee
    exact qB_missNight_x47 hk hP
theorem LB_missNight {σ σ' : Mem} {x1 : Int32} {r : Unit} (hk : kB_missNight σ x1 = some (r, σ')) : M l D dA H0 yX0_missNight YB_missNight [vR (some (5, 0)), vI x1] (hp σ) (fun x h' => x = none ∧ h' = hp σ') :=
  m_of (j := 2) (by decide) rfl (fun hh => by cases hh) ⟨fun _ _ => trivial, rfl⟩ (le_b rfl) (qB_missNight hk ⟨rfl, rfl⟩)
theorem qG_isNight {σ : Mem} {x0 : Int32} {res : Int32 × Mem} (hk : kG_isNight σ x0 = some res) (hP : Po (some (vI res.1)) (hp res.2)) : J l D dA H0 YG_isNight h0 Po 0 0 (hp σ) 0 [some (vI x0)] [] := by
  unfold kG_isNight at hk
  refine j_iload_n (pc' := 1) rfl rfl dX8_isNight_0 ?_
  refine j_if_lt (pc' := 4) (tg := 14) rfl rfl dX8_isNight_1 (fun c2 => ?_) (fun c2 => ?_)
  · have hk := (if_pos c2).symm.trans hk
    refine j_iconst (pc' := 15) (v := 0) rfl rfl dX8_isNight_14 ?_
    obtain rfl := Option.some.inj hk
    exact j_zret rfl rfl ⟨rfl, rfl⟩ dX8_isNight_15 hP
  · have hk := (if_neg c2).symm.trans hk
    refine j_iload_n (pc' := 5) rfl rfl dX8_isNight_4 ?_
    refine j_bipush (pc' := 7) (v := 60) rfl rfl dX8_isNight_5 ?_
    refine j_ic_ge (pc' := 10) (tg := 14) rfl rfl dX8_isNight_7 (fun c1 => ?_) (fun c1 => ?_)
    · have hk := (if_pos c1).symm.trans hk
      refine j_iconst (pc' := 15) (v := 0) rfl rfl dX8_isNight_14 ?_
      obtain rfl := Option.some.inj hk
      exact j_zret rfl rfl ⟨rfl, rfl⟩ dX8_isNight_15 hP
    · have hk := (if_neg c1).symm.trans hk
      refine j_iconst (pc' := 11) (v := 1) rfl rfl dX8_isNight_10 ?_
      refine j_goto (tg := 15) rfl dX8_isNight_11 ?_
      obtain rfl := Option.some.inj hk
      exact j_zret rfl rfl ⟨rfl, rfl⟩ dX8_isNight_15 hP
theorem LG_isNight {σ σ' : Mem} {x0 : Int32} {r : Int32} (hk : kG_isNight σ x0 = some (r, σ')) : M l D dA H0 yX8_isNight YG_isNight [vI x0] (hp σ) (fun x h' => x = some (vI r) ∧ h' = hp σ') :=
  m_of (j := 0) (by decide) rfl (fun hh => by cases hh) ⟨fun _ _ => trivial, rfl⟩ (le_b rfl) (qG_isNight hk ⟨rfl, rfl⟩)
theorem qQ_spotIn {σ : Mem} {x0 : Nat} {x1 : Int32} {res : Int32 × Mem} (hk : kQ_spotIn σ x0 x1 = some res) (hP : Po (some (vI res.1)) (hp res.2)) : J l D dA H0 YQ_spotIn h0 Po 0 0 (hp σ) 0 [some (vR (some (21, x0))), some (vI x1)] [] := by
  unfold kQ_spotIn at hk
  refine j_iload_n (pc' := 1) rfl rfl dX3_spotIn_0 ?_
  obtain ⟨⟨r1, σ2⟩, hx, hk⟩ := of_bind hk
  refine j_cs1 (pc' := 4) (LG_isNight hx) cs_RX3_44 ⟨le_b rfl, le_b rfl⟩ rfl (le_b rfl) ⟨rfl, rfl⟩ ⟨le_b rfl, le_b rfl⟩ rfl rfl dX3_spotIn_1 ?_
  refine j_if_eq (pc' := 7) (tg := 16) rfl rfl dX3_spotIn_4 (fun c4 => ?_) (fun c4 => ?_)
  · have hk := (if_pos c4).symm.trans hk
    refine j_iconst (pc' := 17) (v := (-1)) rfl rfl dX3_spotIn_16 ?_
    obtain rfl := Option.some.inj hk
    exact j_iret rfl ⟨rfl, rfl⟩ dX3_spotIn_17 hP
  · have hk := (if_neg c4).symm.trans hk
    refine j_aload_n (pc' := 8) rfl rfl dX3_spotIn_7 ?_
    refine j_getf (pc' := 11) fg_RX3_9 (hp_e rfl) rfl rfl dX3_spotIn_8 ?_
    refine j_iload_n (pc' := 12) rfl rfl dX3_spotIn_11 ?_
    obtain ⟨g3, hk⟩ := of_ite hk
    refine j_iald (pc' := 13) (hp_e rfl) (inR_in g3) rfl dX3_spotIn_12 ?_
    refine j_goto (tg := 17) rfl dX3_spotIn_13 ?_
    obtain rfl := Option.some.inj hk
    exact j_iret rfl ⟨rfl, rfl⟩ dX3_spotIn_17 hP
theorem LQ_spotIn {σ σ' : Mem} {x0 : Nat} {x1 : Int32} {r : Int32} (hk : kQ_spotIn σ x0 x1 = some (r, σ')) : M l D dA H0 yX3_spotIn YQ_spotIn [vR (some (21, x0)), vI x1] (hp σ) (fun x h' => x = some (vI r) ∧ h' = hp σ') :=
  m_of (j := 0) (by decide) rfl (fun hh => by cases hh) ⟨fun _ _ => trivial, rfl⟩ (le_b rfl) (qQ_spotIn hk ⟨rfl, rfl⟩)
theorem qB_walkFrom_s4 {σ : Mem} {x1 : Int32} {x2 : Int32} {x3 : Int32} {o4 : Option AV} {out : (Int32 × Int32 × Mem) ⊕ (Int32 × Mem)} (hk : kB_walkFrom_s4 x1 (x2, x3, σ) = some out) (hc : ∀ (z2 : Int32) (z3 : Int32) (ς : Mem), out = .inl (z2, z3, ς) → ∀ (o4 : Option AV), J l D dA H0 YB_walkFrom h0 Po 0 0 (hp ς) 4 [some (vR (some (5, 0))), some (vI x1), some (vI z2), some (vI z3), o4] []) (hx0 : ∀ (z2 : Int32) (ς : Mem), out = .inr (z2, ς) → ∀ (o0 o1 o3 o4 : Option AV), J l D dA H0 YB_walkFrom h0 Po 0 0 (hp ς) 68 [o0, o1, some (vI z2), o3, o4] []) : J l D dA H0 YB_walkFrom h0 Po 0 0 (hp σ) 4 [some (vR (some (5, 0))), some (vI x1), some (vI x2), some (vI x3), o4] [] := by
  unfold kB_walkFrom_s4 at hk
  refine j_iload_n (pc' := 5) rfl rfl dX0_walkFrom_4 ?_
  refine j_aload_n (pc' := 6) rfl rfl dX0_walkFrom_5 ?_
  refine j_getf (pc' := 9) fg_RX0_17 (hp_e rfl) rfl rfl dX0_walkFrom_6 ?_
  refine j_ic_ge (pc' := 12) (tg := 68) rfl rfl dX0_walkFrom_9 (fun c11 => ?_) (fun c11 => ?_)
  · have hk := (if_pos c11).symm.trans hk
    obtain rfl := Option.some.inj hk
    exact hx0 _ _ rfl _ _ _ _
  · have hk := (if_neg c11).symm.trans hk
    refine j_aload_n (pc' := 13) rfl rfl dX0_walkFrom_12 ?_
    refine j_iload_n (pc' := 14) rfl rfl dX0_walkFrom_13 ?_
    obtain ⟨⟨r1, σ2⟩, hx, hk⟩ := of_bind hk
    refine j_cv1 (pc' := 17) (LB_at hx) cv_RX0_21 ⟨le_b rfl, le_b rfl⟩ (hp_e rfl) rfl rfl (le_b rfl) ⟨rfl, rfl⟩ ⟨le_b rfl, le_b rfl⟩ rfl rfl dX0_walkFrom_14 ?_
    refine j_astore (pc' := 19) (lt_b rfl) rfl rfl dX0_walkFrom_17 ?_
    refine j_aload (pc' := 21) rfl rfl dX0_walkFrom_19 ?_
    rcases of_elim hk with ⟨hr, hk⟩ | ⟨j3, hr, hk⟩
    · subst hr
      refine j_ifnull (pc' := 24) (tg := 62) rfl rfl dX0_walkFrom_21 (fun _ => ?_) (fun _ hh => by cases hh)
      refine j_iinc (pc' := 65) (v := x3 + 1) rfl rfl (lt_b rfl) rfl rfl dX0_walkFrom_62 ?_
      refine j_goto (tg := 4) rfl dX0_walkFrom_65 ?_
      obtain rfl := Option.some.inj hk
      exact hc _ _ _ rfl _
    · subst hr
      refine j_ifnull (pc' := 24) (tg := 62) rfl rfl dX0_walkFrom_21 (fun hh => by cases hh) (fun _ _ => ?_)
      refine j_aload (pc' := 26) rfl rfl dX0_walkFrom_24 ?_
      refine j_getf (pc' := 29) fg_RX0_36 (hp_e rfl) rfl rfl dX0_walkFrom_26 ?_
      refine j_iconst (pc' := 30) (v := 2) rfl rfl dX0_walkFrom_29 ?_
      refine j_ic_ne (pc' := 33) (tg := 62) rfl rfl dX0_walkFrom_30 (fun c10 => ?_) (fun c10 => ?_)
      · have hk := (if_neg c10).symm.trans hk
        refine j_iinc (pc' := 65) (v := x3 + 1) rfl rfl (lt_b rfl) rfl rfl dX0_walkFrom_62 ?_
        refine j_goto (tg := 4) rfl dX0_walkFrom_65 ?_
        obtain rfl := Option.some.inj hk
        exact hc _ _ _ rfl _
      · have hk := (if_pos c10).symm.trans hk
        refine j_aload (pc' := 35) rfl rfl dX0_walkFrom_33 ?_
        refine j_iload_n (pc' := 36) rfl rfl dX0_walkFrom_35 ?_
        obtain ⟨⟨r4, σ5⟩, hx, hk⟩ := of_bind hk
        refine j_cv1 (pc' := 39) (LQ_covers hx) cv_RX0_32 ⟨le_b rfl, le_b rfl⟩ (hp_e rfl) rfl rfl (le_b rfl) ⟨rfl, rfl⟩ ⟨le_b rfl, le_b rfl⟩ rfl rfl dX0_walkFrom_36 ?_
        refine j_if_eq (pc' := 42) (tg := 62) rfl rfl dX0_walkFrom_39 (fun c9 => ?_) (fun c9 => ?_)
        · have hk := (if_pos c9).symm.trans hk
          refine j_iinc (pc' := 65) (v := x3 + 1) rfl rfl (lt_b rfl) rfl rfl dX0_walkFrom_62 ?_
          refine j_goto (tg := 4) rfl dX0_walkFrom_65 ?_
          obtain rfl := Option.some.inj hk
          exact hc _ _ _ rfl _
        · have hk := (if_neg c9).symm.trans hk
          refine j_aload (pc' := 44) rfl rfl dX0_walkFrom_42 ?_
          refine j_iload_n (pc' := 45) rfl rfl dX0_walkFrom_44 ?_
          obtain ⟨⟨r6, σ7⟩, hx, hk⟩ := of_bind hk
          refine j_cv1 (pc' := 48) (LQ_spotIn hx) cv_RX0_39 ⟨le_b rfl, le_b rfl⟩ (hp_e rfl) rfl rfl (le_b rfl) ⟨rfl, rfl⟩ ⟨le_b rfl, le_b rfl⟩ rfl rfl dX0_walkFrom_45 ?_
          refine j_iconst (pc' := 49) (v := (-1)) rfl rfl dX0_walkFrom_48 ?_
          refine j_ic_ne (pc' := 52) (tg := 62) rfl rfl dX0_walkFrom_49 (fun c8 => ?_) (fun c8 => ?_)
          · have hk := (if_neg c8).symm.trans hk
            refine j_iinc (pc' := 65) (v := x3 + 1) rfl rfl (lt_b rfl) rfl rfl dX0_walkFrom_62 ?_
            refine j_goto (tg := 4) rfl dX0_walkFrom_65 ?_
            obtain rfl := Option.some.inj hk
            exact hc _ _ _ rfl _
          · have hk := (if_pos c8).symm.trans hk
            refine j_aload (pc' := 54) rfl rfl dX0_walkFrom_52 ?_
            refine j_bipush (pc' := 56) (v := 7) rfl rfl dX0_walkFrom_54 ?_
            refine j_pi (pc' := 59) (ty := .int) fg_RX0_36 ttX3 rfl rfl ⟨rfl, rfl⟩ rfl (lt_b rfl) rfl rfl dX0_walkFrom_56 ?_
            refine j_iinc (pc' := 62) (v := x2 + 1) rfl rfl (lt_b rfl) rfl rfl dX0_walkFrom_59 ?_
            refine j_iinc (pc' := 65) (v := x3 + 1) rfl rfl (lt_b rfl) rfl rfl dX0_walkFrom_62 ?_
            refine j_goto (tg := 4) rfl dX0_walkFrom_65 ?_
            obtain rfl := Option.some.inj hk
            exact hc _ _ _ rfl _
theorem lB_walkFrom_s4 {x1 : Int32} : ∀ (n : Nat) (x2 : Int32) (x3 : Int32) (σ : Mem) (e : (Int32 × Mem)), loopF n (kB_walkFrom_s4 x1) (x2, x3, σ) = some e → (∀ (z2 : Int32) (ς : Mem), e = (z2, ς) → ∀ (o0 o1 o3 o4 : Option AV), J l D dA H0 YB_walkFrom h0 Po 0 0 (hp ς) 68 [o0, o1, some (vI z2), o3, o4] []) → ∀ (o4 : Option AV), J l D dA H0 YB_walkFrom h0 Po 0 0 (hp σ) 4 [some (vR (some (5, 0))), some (vI x1), some (vI x2), some (vI x3), o4] []
  | 0, x2, x3, σ, e, he => by cases he
  | n + 1, x2, x3, σ, e, he => by
    intro hx0 o4
    rcases loopF_succ he with ⟨s', h1, h2⟩ | h1
    · refine qB_walkFrom_s4 h1 ?_ ?_
      · intro z2 z3 ς ee
        cases ee
        exact lB_walkFrom_s4 n z2 z3 ς e h2 hx0
      · intro z2 ς ee
        cases ee
    · refine qB_walkFrom_s4 h1 ?_ ?_
      · intro z2 z3 ς ee
        cases ee
      · intro z2 ς ee
        exact hx0 z2 ς (Sum.inr.inj ee)
theorem qB_walkFrom_x68 {σ : Mem} {x2 : Int32} {o0 : Option AV} {o1 : Option AV} {o3 : Option AV} {o4 : Option AV} {res : Int32 × Mem} (hk : kB_walkFrom_x68 σ x2 = some res) (hP : Po (some (vI res.1)) (hp res.2)) : J l D dA H0 YB_walkFrom h0 Po 0 0 (hp σ) 68 [o0, o1, some (vI x2), o3, o4] [] := by
  unfold kB_walkFrom_x68 at hk
  refine j_iload_n (pc' := 69) rfl rfl dX0_walkFrom_68 ?_
  obtain rfl := Option.some.inj hk
  exact j_iret rfl ⟨rfl, rfl⟩ dX0_walkFrom_69 hP
theorem qB_walkFrom {σ : Mem} {x1 : Int32} {o2 : Option AV} {o3 : Option AV} {o4 : Option AV} {res : Int32 × Mem} (hk : kB_walkFrom σ x1 = some res) (hP : Po (some (vI res.1)) (hp res.2)) : J l D dA H0 YB_walkFrom h0 Po 0 0 (hp σ) 0 [some (vR (some (5, 0))), some (vI x1), o2, o3, o4] [] := by
  unfold kB_walkFrom at hk
  refine j_iconst (pc' := 1) (v := 0) rfl rfl dX0_walkFrom_0 ?_
  refine j_istore_n (pc' := 2) (lt_b rfl) rfl rfl dX0_walkFrom_1 ?_
  refine j_iconst (pc' := 3) (v := 0) rfl rfl dX0_walkFrom_2 ?_
  refine j_istore_n (pc' := 4) (lt_b rfl) rfl rfl dX0_walkFrom_3 ?_
  obtain ⟨e, he, hk⟩ := of_bind hk
  refine lB_walkFrom_s4 FU _ _ _ e he ?_ _
  · intro z2 ς ee _ _ _ _
    subst ee
    exact qB_walkFrom_x68 hk hP
theorem LB_walkFrom {σ σ' : Mem} {x1 : Int32} {r : Int32} (hk : kB_walkFrom σ x1 = some (r, σ')) : M l D dA H0 yX0_walkFrom YB_walkFrom [vR (some (5, 0)), vI x1] (hp σ) (fun x h' => x = some (vI r) ∧ h' = hp σ') :=
  m_of (j := 3) (by decide) rfl (fun hh => by cases hh) ⟨fun _ _ => trivial, rfl⟩ (le_b rfl) (qB_walkFrom hk ⟨rfl, rfl⟩)
theorem qB_turnTo_j47 {σ : Mem} {x1 : Int32} {x2 : Int32} {x3 : Option Nat} {out : Int32 × Mem ⊕ (Mem)} (hk : kB_turnTo_j47 σ x1 x2 x3 = some out) (hc : ∀ (z2 : Int32) (ς : Mem), out = .inl (z2, ς) → ∀ (o3 : Option AV), J l D dA H0 YB_turnTo h0 Po 0 0 (hp ς) 2 [some (vR (some (5, 0))), some (vI x1), some (vI z2), o3] []) (hx0 : ∀ (ς : Mem), out = .inr ς → ∀ (o0 o1 o2 o3 : Option AV), J l D dA H0 YB_turnTo h0 Po 0 0 (hp ς) 73 [o0, o1, o2, o3] []) : J l D dA H0 YB_turnTo h0 Po 0 0 (hp σ) 47 [some (vR (some (5, 0))), some (vI x1), some (vI x2), some (vR (x3.map (Prod.mk 21)))] [] := by
  unfold kB_turnTo_j47 at hk
  refine j_aload_n (pc' := 48) rfl rfl dX0_turnTo_47 ?_
  rcases of_elim hk with ⟨hr, hk⟩ | ⟨j4, hr, hk⟩
  · subst hr
    cases hk
  · subst hr
    refine j_getf (pc' := 51) fg_RX0_36 (hp_e rfl) rfl rfl dX0_turnTo_48 ?_
    refine j_if_ne (pc' := 54) (tg := 67) rfl rfl dX0_turnTo_51 (fun c6 => ?_) (fun c6 => ?_)
    · have hk := (if_neg c6).symm.trans hk
      refine j_iinc (pc' := 70) (v := x2 + 1) rfl rfl (lt_b rfl) rfl rfl dX0_turnTo_67 ?_
      refine j_goto (tg := 2) rfl dX0_turnTo_70 ?_
      obtain rfl := Option.some.inj hk
      exact hc _ _ rfl _
    · have hk := (if_pos c6).symm.trans hk
      refine j_aload_n (pc' := 55) rfl rfl dX0_turnTo_54 ?_
      refine j_getf (pc' := 58) fg_RX0_46 (hp_e rfl) rfl rfl dX0_turnTo_55 ?_
      refine j_iload_n (pc' := 59) rfl rfl dX0_turnTo_58 ?_
      refine j_ic_ge (pc' := 62) (tg := 67) rfl rfl dX0_turnTo_59 (fun c5 => ?_) (fun c5 => ?_)
      · have hk := (if_pos c5).symm.trans hk
        refine j_iinc (pc' := 70) (v := x2 + 1) rfl rfl (lt_b rfl) rfl rfl dX0_turnTo_67 ?_
        refine j_goto (tg := 2) rfl dX0_turnTo_70 ?_
        obtain rfl := Option.some.inj hk
        exact hc _ _ rfl _
      · have hk := (if_neg c5).symm.trans hk
        refine j_aload_n (pc' := 63) rfl rfl dX0_turnTo_62 ?_
        refine j_iconst (pc' := 64) (v := 5) rfl rfl dX0_turnTo_63 ?_
        refine j_pi (pc' := 67) (ty := .int) fg_RX0_36 ttX3 rfl rfl ⟨rfl, rfl⟩ rfl (lt_b rfl) rfl rfl dX0_turnTo_64 ?_
        refine j_iinc (pc' := 70) (v := x2 + 1) rfl rfl (lt_b rfl) rfl rfl dX0_turnTo_67 ?_
        refine j_goto (tg := 2) rfl dX0_turnTo_70 ?_
        obtain rfl := Option.some.inj hk
        exact hc _ _ rfl _
theorem qB_turnTo_s2 {σ : Mem} {x1 : Int32} {x2 : Int32} {o3 : Option AV} {out : (Int32 × Mem) ⊕ (Mem)} (hk : kB_turnTo_s2 x1 (x2, σ) = some out) (hc : ∀ (z2 : Int32) (ς : Mem), out = .inl (z2, ς) → ∀ (o3 : Option AV), J l D dA H0 YB_turnTo h0 Po 0 0 (hp ς) 2 [some (vR (some (5, 0))), some (vI x1), some (vI z2), o3] []) (hx0 : ∀ (ς : Mem), out = .inr ς → ∀ (o0 o1 o2 o3 : Option AV), J l D dA H0 YB_turnTo h0 Po 0 0 (hp ς) 73 [o0, o1, o2, o3] []) : J l D dA H0 YB_turnTo h0 Po 0 0 (hp σ) 2 [some (vR (some (5, 0))), some (vI x1), some (vI x2), o3] [] := by
  unfold kB_turnTo_s2 at hk
  refine j_iload_n (pc' := 3) rfl rfl dX0_turnTo_2 ?_
  refine j_aload_n (pc' := 4) rfl rfl dX0_turnTo_3 ?_
  refine j_getf (pc' := 7) fg_RX0_17 (hp_e rfl) rfl rfl dX0_turnTo_4 ?_
  refine j_ic_ge (pc' := 10) (tg := 73) rfl rfl dX0_turnTo_7 (fun c9 => ?_) (fun c9 => ?_)
  · have hk := (if_pos c9).symm.trans hk
    obtain rfl := Option.some.inj hk
    exact hx0 _ rfl _ _ _ _
  · have hk := (if_neg c9).symm.trans hk
    refine j_aload_n (pc' := 11) rfl rfl dX0_turnTo_10 ?_
    refine j_iload_n (pc' := 12) rfl rfl dX0_turnTo_11 ?_
    obtain ⟨⟨r1, σ2⟩, hx, hk⟩ := of_bind hk
    refine j_cv1 (pc' := 15) (LB_at hx) cv_RX0_21 ⟨le_b rfl, le_b rfl⟩ (hp_e rfl) rfl rfl (le_b rfl) ⟨rfl, rfl⟩ ⟨le_b rfl, le_b rfl⟩ rfl rfl dX0_turnTo_12 ?_
    refine j_astore_n (pc' := 16) (lt_b rfl) rfl rfl dX0_turnTo_15 ?_
    refine j_aload_n (pc' := 17) rfl rfl dX0_turnTo_16 ?_
    rcases of_elim hk with ⟨hr, hk⟩ | ⟨j3, hr, hk⟩
    · subst hr
      refine j_ifnonnull (pc' := 20) (tg := 23) rfl rfl dX0_turnTo_17 (fun _ hh => by cases hh) (fun _ => ?_)
      refine j_goto (tg := 67) rfl dX0_turnTo_20 ?_
      refine j_iinc (pc' := 70) (v := x2 + 1) rfl rfl (lt_b rfl) rfl rfl dX0_turnTo_67 ?_
      refine j_goto (tg := 2) rfl dX0_turnTo_70 ?_
      obtain rfl := Option.some.inj hk
      exact hc _ _ rfl _
    · subst hr
      refine j_ifnonnull (pc' := 20) (tg := 23) rfl rfl dX0_turnTo_17 (fun _ _ => ?_) (fun hh => by cases hh)
      refine j_aload_n (pc' := 24) rfl rfl dX0_turnTo_23 ?_
      refine j_getf (pc' := 27) fg_RX0_36 (hp_e rfl) rfl rfl dX0_turnTo_24 ?_
      refine j_iconst (pc' := 28) (v := 2) rfl rfl dX0_turnTo_27 ?_
      refine j_ic_ne (pc' := 31) (tg := 47) rfl rfl dX0_turnTo_28 (fun c8 => ?_) (fun c8 => ?_)
      · have hk := (if_neg c8).symm.trans hk
        exact qB_turnTo_j47 hk hc hx0
      · have hk := (if_pos c8).symm.trans hk
        refine j_aload_n (pc' := 32) rfl rfl dX0_turnTo_31 ?_
        refine j_getf (pc' := 35) fg_RX0_43 (hp_e rfl) rfl rfl dX0_turnTo_32 ?_
        refine j_iload_n (pc' := 36) rfl rfl dX0_turnTo_35 ?_
        refine j_ic_ne (pc' := 39) (tg := 47) rfl rfl dX0_turnTo_36 (fun c7 => ?_) (fun c7 => ?_)
        · have hk := (if_neg c7).symm.trans hk
          exact qB_turnTo_j47 hk hc hx0
        · have hk := (if_pos c7).symm.trans hk
          refine j_aload_n (pc' := 40) rfl rfl dX0_turnTo_39 ?_
          refine j_iconst (pc' := 41) (v := 3) rfl rfl dX0_turnTo_40 ?_
          refine j_pi (pc' := 44) (ty := .int) fg_RX0_36 ttX3 rfl rfl ⟨rfl, rfl⟩ rfl (lt_b rfl) rfl rfl dX0_turnTo_41 ?_
          refine j_goto (tg := 67) rfl dX0_turnTo_44 ?_
          refine j_iinc (pc' := 70) (v := x2 + 1) rfl rfl (lt_b rfl) rfl rfl dX0_turnTo_67 ?_
          refine j_goto (tg := 2) rfl dX0_turnTo_70 ?_
          obtain rfl := Option.some.inj hk
          exact hc _ _ rfl _
theorem lB_turnTo_s2 {x1 : Int32} : ∀ (n : Nat) (x2 : Int32) (σ : Mem) (e : (Mem)), loopF n (kB_turnTo_s2 x1) (x2, σ) = some e → (∀ (ς : Mem), e = ς → ∀ (o0 o1 o2 o3 : Option AV), J l D dA H0 YB_turnTo h0 Po 0 0 (hp ς) 73 [o0, o1, o2, o3] []) → ∀ (o3 : Option AV), J l D dA H0 YB_turnTo h0 Po 0 0 (hp σ) 2 [some (vR (some (5, 0))), some (vI x1), some (vI x2), o3] []
  | 0, x2, σ, e, he => by cases he
  | n + 1, x2, σ, e, he => by
    intro hx0 o3
    rcases loopF_succ he with ⟨s', h1, h2⟩ | h1
    · refine qB_turnTo_s2 h1 ?_ ?_
      · intro z2 ς ee
        cases ee
        exact lB_turnTo_s2 n z2 ς e h2 hx0
      · intro ς ee
        cases ee
    · refine qB_turnTo_s2 h1 ?_ ?_
      · intro z2 ς ee
        cases ee
      · intro ς ee
        exact hx0 ς (Sum.inr.inj ee)
theorem qB_turnTo_x73 {σ : Mem} {o0 : Option AV} {o1 : Option AV} {o2 : Option AV} {o3 : Option AV} {res : Unit × Mem} (hk : kB_turnTo_x73 σ = some res) (hP : Po none (hp res.2)) : J l D dA H0 YB_turnTo h0 Po 0 0 (hp σ) 73 [o0, o1, o2, o3] [] := by
  unfold kB_turnTo_x73 at hk
  obtain rfl := Option.some.inj hk
  exact j_ret rfl ⟨rfl, rfl⟩ dX0_turnTo_73 hP
theorem qB_turnTo {σ : Mem} {x1 : Int32} {o2 : Option AV} {o3 : Option AV} {res : Unit × Mem} (hk : kB_turnTo σ x1 = some res) (hP : Po none (hp res.2)) : J l D dA H0 YB_turnTo h0 Po 0 0 (hp σ) 0 [some (vR (some (5, 0))), some (vI x1), o2, o3] [] := by
  unfold kB_turnTo at hk
  refine j_iconst (pc' := 1) (v := 0) rfl rfl dX0_turnTo_0 ?_
  refine j_istore_n (pc' := 2) (lt_b rfl) rfl rfl dX0_turnTo_1 ?_
  obtain ⟨e, he, hk⟩ := of_bind hk
  refine lB_turnTo_s2 FU _ _ e he ?_ _
  · intro ς ee _ _ _ _
    subst ee
    exact qB_turnTo_x73 hk hP
theorem LB_turnTo {σ σ' : Mem} {x1 : Int32} {r : Unit} (hk : kB_turnTo σ x1 = some (r, σ')) : M l D dA H0 yX0_turnTo YB_turnTo [vR (some (5, 0)), vI x1] (hp σ) (fun x h' => x = none ∧ h' = hp σ') :=
  m_of (j := 2) (by decide) rfl (fun hh => by cases hh) ⟨fun _ _ => trivial, rfl⟩ (le_b rfl) (qB_turnTo hk ⟨rfl, rfl⟩)
theorem qH_roomAt {σ : Mem} {x1 : Int32} {res : Option Nat × Mem} (hk : kH_roomAt σ x1 = some res) (hP : Po (some (vR (res.1.map (Prod.mk 20)))) (hp res.2)) : J l D dA H0 YH_roomAt h0 Po 0 0 (hp σ) 0 [some (vR (some (2, 0))), some (vI x1)] [] := by
  unfold kH_roomAt at hk
  refine j_iload_n (pc' := 1) rfl rfl dX1_roomAt_0 ?_
  refine j_if_lt (pc' := 4) (tg := 19) rfl rfl dX1_roomAt_1 (fun c4 => ?_) (fun c4 => ?_)
  · have hk := (if_pos c4).symm.trans hk
    refine j_null (pc' := 20) rfl dX1_roomAt_19 ?_
    obtain rfl := Option.some.inj hk
    exact j_aret rfl ⟨rfl, rfl⟩ dX1_roomAt_20 hP
  · have hk := (if_neg c4).symm.trans hk
    refine j_iload_n (pc' := 5) rfl rfl dX1_roomAt_4 ?_
    refine j_bipush (pc' := 7) (v := 16) rfl rfl dX1_roomAt_5 ?_
    refine j_ic_ge (pc' := 10) (tg := 19) rfl rfl dX1_roomAt_7 (fun c3 => ?_) (fun c3 => ?_)
    · have hk := (if_pos c3).symm.trans hk
      refine j_null (pc' := 20) rfl dX1_roomAt_19 ?_
      obtain rfl := Option.some.inj hk
      exact j_aret rfl ⟨rfl, rfl⟩ dX1_roomAt_20 hP
    · have hk := (if_neg c3).symm.trans hk
      refine j_aload_n (pc' := 11) rfl rfl dX1_roomAt_10 ?_
      refine j_getf (pc' := 14) fg_RX1_11 (hp_e rfl) rfl rfl dX1_roomAt_11 ?_
      refine j_iload_n (pc' := 15) rfl rfl dX1_roomAt_14 ?_
      obtain ⟨g1, hk⟩ := of_ite hk
      refine j_aald (pc' := 16) ⟨le_b rfl, lt_b rfl⟩ (hp_e rfl) (inR_in g1) rfl dX1_roomAt_15 ?_
      rcases of_elim hk with ⟨hr, hk⟩ | ⟨j2, hr, hk⟩
      · refine j_top (v' := vR none) (congrArg (fun o => vR (Option.map (Prod.mk 20) o)) hr) ?_
        refine j_goto (tg := 20) rfl dX1_roomAt_16 ?_
        obtain rfl := Option.some.inj hk
        exact j_aret rfl ⟨rfl, rfl⟩ dX1_roomAt_20 hP
      · refine j_top (v' := vR (some (20, j2))) (congrArg (fun o => vR (Option.map (Prod.mk 20) o)) hr) ?_
        refine j_goto (tg := 20) rfl dX1_roomAt_16 ?_
        obtain rfl := Option.some.inj hk
        exact j_aret rfl ⟨rfl, rfl⟩ dX1_roomAt_20 hP
theorem LH_roomAt {σ σ' : Mem} {x1 : Int32} {r : Option Nat} (hk : kH_roomAt σ x1 = some (r, σ')) : M l D dA H0 yX1_roomAt YH_roomAt [vR (some (2, 0)), vI x1] (hp σ) (fun x h' => x = some (vR (r.map (Prod.mk 20))) ∧ h' = hp σ') :=
  m_of (j := 0) (by decide) rfl (fun hh => by cases hh) ⟨fun _ _ => trivial, rfl⟩ (le_b rfl) (qH_roomAt hk ⟨rfl, rfl⟩)
theorem qG_isPlace {σ : Mem} {x0 : Int32} {res : Int32 × Mem} (hk : kG_isPlace σ x0 = some res) (hP : Po (some (vI res.1)) (hp res.2)) : J l D dA H0 YG_isPlace h0 Po 0 0 (hp σ) 0 [some (vI x0)] [] := by
  unfold kG_isPlace at hk
  refine j_iload_n (pc' := 1) rfl rfl dX8_isPlace_0 ?_
  refine j_if_lt (pc' := 4) (tg := 14) rfl rfl dX8_isPlace_1 (fun c2 => ?_) (fun c2 => ?_)
  · have hk := (if_pos c2).symm.trans hk
    refine j_iconst (pc' := 15) (v := 0) rfl rfl dX8_isPlace_14 ?_
    obtain rfl := Option.some.inj hk
    exact j_zret rfl rfl ⟨rfl, rfl⟩ dX8_isPlace_15 hP
  · have hk := (if_neg c2).symm.trans hk
    refine j_iload_n (pc' := 5) rfl rfl dX8_isPlace_4 ?_
    refine j_bipush (pc' := 7) (v := 16) rfl rfl dX8_isPlace_5 ?_
    refine j_ic_ge (pc' := 10) (tg := 14) rfl rfl dX8_isPlace_7 (fun c1 => ?_) (fun c1 => ?_)
    · have hk := (if_pos c1).symm.trans hk
      refine j_iconst (pc' := 15) (v := 0) rfl rfl dX8_isPlace_14 ?_
      obtain rfl := Option.some.inj hk
      exact j_zret rfl rfl ⟨rfl, rfl⟩ dX8_isPlace_15 hP
    · have hk := (if_neg c1).symm.trans hk
      refine j_iconst (pc' := 11) (v := 1) rfl rfl dX8_isPlace_10 ?_
      refine j_goto (tg := 15) rfl dX8_isPlace_11 ?_
      obtain rfl := Option.some.inj hk
      exact j_zret rfl rfl ⟨rfl, rfl⟩ dX8_isPlace_15 hP
theorem LG_isPlace {σ σ' : Mem} {x0 : Int32} {r : Int32} (hk : kG_isPlace σ x0 = some (r, σ')) : M l D dA H0 yX8_isPlace YG_isPlace [vI x0] (hp σ) (fun x h' => x = some (vI r) ∧ h' = hp σ') :=
  m_of (j := 0) (by decide) rfl (fun hh => by cases hh) ⟨fun _ _ => trivial, rfl⟩ (le_b rfl) (qG_isPlace hk ⟨rfl, rfl⟩)
theorem qH_isEmpty {σ : Mem} {x1 : Int32} {res : Int32 × Mem} (hk : kH_isEmpty σ x1 = some res) (hP : Po (some (vI res.1)) (hp res.2)) : J l D dA H0 YH_isEmpty h0 Po 0 0 (hp σ) 0 [some (vR (some (2, 0))), some (vI x1)] [] := by
  unfold kH_isEmpty at hk
  refine j_iload_n (pc' := 1) rfl rfl dX1_isEmpty_0 ?_
  obtain ⟨⟨r1, σ2⟩, hx, hk⟩ := of_bind hk
  refine j_cs1 (pc' := 4) (LG_isPlace hx) cs_RX1_21 ⟨le_b rfl, le_b rfl⟩ rfl (le_b rfl) ⟨rfl, rfl⟩ ⟨le_b rfl, le_b rfl⟩ rfl rfl dX1_isEmpty_1 ?_
  refine j_if_eq (pc' := 7) (tg := 29) rfl rfl dX1_isEmpty_4 (fun c7 => ?_) (fun c7 => ?_)
  · have hk := (if_pos c7).symm.trans hk
    refine j_iconst (pc' := 30) (v := 0) rfl rfl dX1_isEmpty_29 ?_
    obtain rfl := Option.some.inj hk
    exact j_zret rfl rfl ⟨rfl, rfl⟩ dX1_isEmpty_30 hP
  · have hk := (if_neg c7).symm.trans hk
    refine j_aload_n (pc' := 8) rfl rfl dX1_isEmpty_7 ?_
    refine j_getf (pc' := 11) fg_RX1_11 (hp_e rfl) rfl rfl dX1_isEmpty_8 ?_
    refine j_iload_n (pc' := 12) rfl rfl dX1_isEmpty_11 ?_
    obtain ⟨g3, hk⟩ := of_ite hk
    refine j_aald (pc' := 13) ⟨le_b rfl, lt_b rfl⟩ (hp_e rfl) (inR_in g3) rfl dX1_isEmpty_12 ?_
    rcases of_elim hk with ⟨hr, hk⟩ | ⟨j4, hr, hk⟩
    · refine j_top (v' := vR none) (congrArg (fun o => vR (Option.map (Prod.mk 20) o)) hr) ?_
      refine j_ifnonnull (pc' := 16) (tg := 29) rfl rfl dX1_isEmpty_13 (fun _ hh => by cases hh) (fun _ => ?_)
      refine j_aload_n (pc' := 17) rfl rfl dX1_isEmpty_16 ?_
      refine j_getf (pc' := 20) fg_RX1_17 (hp_e rfl) rfl rfl dX1_isEmpty_17 ?_
      refine j_iload_n (pc' := 21) rfl rfl dX1_isEmpty_20 ?_
      obtain ⟨g5, hk⟩ := of_ite hk
      refine j_bald (pc' := 22) (hp_e rfl) (inR_in g5) rfl dX1_isEmpty_21 ?_
      refine j_if_ne (pc' := 25) (tg := 29) rfl rfl dX1_isEmpty_22 (fun c6 => ?_) (fun c6 => ?_)
      · have hk := (if_neg c6).symm.trans hk
        refine j_iconst (pc' := 30) (v := 0) rfl rfl dX1_isEmpty_29 ?_
        obtain rfl := Option.some.inj hk
        exact j_zret rfl rfl ⟨rfl, rfl⟩ dX1_isEmpty_30 hP
      · have hk := (if_pos c6).symm.trans hk
        refine j_iconst (pc' := 26) (v := 1) rfl rfl dX1_isEmpty_25 ?_
        refine j_goto (tg := 30) rfl dX1_isEmpty_26 ?_
        obtain rfl := Option.some.inj hk
        exact j_zret rfl rfl ⟨rfl, rfl⟩ dX1_isEmpty_30 hP
    · refine j_top (v' := vR (some (20, j4))) (congrArg (fun o => vR (Option.map (Prod.mk 20) o)) hr) ?_
      refine j_ifnonnull (pc' := 16) (tg := 29) rfl rfl dX1_isEmpty_13 (fun _ _ => ?_) (fun hh => by cases hh)
      refine j_iconst (pc' := 30) (v := 0) rfl rfl dX1_isEmpty_29 ?_
      obtain rfl := Option.some.inj hk
      exact j_zret rfl rfl ⟨rfl, rfl⟩ dX1_isEmpty_30 hP
theorem LH_isEmpty {σ σ' : Mem} {x1 : Int32} {r : Int32} (hk : kH_isEmpty σ x1 = some (r, σ')) : M l D dA H0 yX1_isEmpty YH_isEmpty [vR (some (2, 0)), vI x1] (hp σ) (fun x h' => x = some (vI r) ∧ h' = hp σ') :=
  m_of (j := 0) (by decide) rfl (fun hh => by cases hh) ⟨fun _ _ => trivial, rfl⟩ (le_b rfl) (qH_isEmpty hk ⟨rfl, rfl⟩)
theorem qH_kindAt {σ : Mem} {x1 : Int32} {o2 : Option AV} {res : Int32 × Mem} (hk : kH_kindAt σ x1 = some res) (hP : Po (some (vI res.1)) (hp res.2)) : J l D dA H0 YH_kindAt h0 Po 0 0 (hp σ) 0 [some (vR (some (2, 0))), some (vI x1), o2] [] := by
  unfold kH_kindAt at hk
  refine j_aload_n (pc' := 1) rfl rfl dX1_kindAt_0 ?_
  refine j_iload_n (pc' := 2) rfl rfl dX1_kindAt_1 ?_
  obtain ⟨⟨r1, σ2⟩, hx, hk⟩ := of_bind hk
  refine j_cv1 (pc' := 5) (LH_roomAt hx) cv_RX1_25 ⟨le_b rfl, le_b rfl⟩ (hp_e rfl) rfl rfl (le_b rfl) ⟨rfl, rfl⟩ ⟨le_b rfl, le_b rfl⟩ rfl rfl dX1_kindAt_2 ?_
  refine j_astore_n (pc' := 6) (lt_b rfl) rfl rfl dX1_kindAt_5 ?_
  refine j_aload_n (pc' := 7) rfl rfl dX1_kindAt_6 ?_
  rcases of_elim hk with ⟨hr, hk⟩ | ⟨j3, hr, hk⟩
  · subst hr
    refine j_ifnull (pc' := 10) (tg := 15) rfl rfl dX1_kindAt_7 (fun _ => ?_) (fun _ hh => by cases hh)
    refine j_iload_n (pc' := 16) rfl rfl dX1_kindAt_15 ?_
    obtain ⟨⟨r4, σ5⟩, hx, hk⟩ := of_bind hk
    refine j_cs1 (pc' := 19) (LG_isPlace hx) cs_RX1_21 ⟨le_b rfl, le_b rfl⟩ rfl (le_b rfl) ⟨rfl, rfl⟩ ⟨le_b rfl, le_b rfl⟩ rfl rfl dX1_kindAt_16 ?_
    refine j_if_eq (pc' := 22) (tg := 35) rfl rfl dX1_kindAt_19 (fun c8 => ?_) (fun c8 => ?_)
    · have hk := (if_pos c8).symm.trans hk
      refine j_iconst (pc' := 36) (v := (-1)) rfl rfl dX1_kindAt_35 ?_
      obtain rfl := Option.some.inj hk
      exact j_iret rfl ⟨rfl, rfl⟩ dX1_kindAt_36 hP
    · have hk := (if_neg c8).symm.trans hk
      refine j_aload_n (pc' := 23) rfl rfl dX1_kindAt_22 ?_
      refine j_getf (pc' := 26) fg_RX1_17 (hp_e rfl) rfl rfl dX1_kindAt_23 ?_
      refine j_iload_n (pc' := 27) rfl rfl dX1_kindAt_26 ?_
      obtain ⟨g6, hk⟩ := of_ite hk
      refine j_bald (pc' := 28) (hp_e rfl) (inR_in g6) rfl dX1_kindAt_27 ?_
      refine j_if_eq (pc' := 31) (tg := 35) rfl rfl dX1_kindAt_28 (fun c7 => ?_) (fun c7 => ?_)
      · have hk := (if_pos c7).symm.trans hk
        refine j_iconst (pc' := 36) (v := (-1)) rfl rfl dX1_kindAt_35 ?_
        obtain rfl := Option.some.inj hk
        exact j_iret rfl ⟨rfl, rfl⟩ dX1_kindAt_36 hP
      · have hk := (if_neg c7).symm.trans hk
        refine j_iconst (pc' := 32) (v := 4) rfl rfl dX1_kindAt_31 ?_
        refine j_goto (tg := 36) rfl dX1_kindAt_32 ?_
        obtain rfl := Option.some.inj hk
        exact j_iret rfl ⟨rfl, rfl⟩ dX1_kindAt_36 hP
  · subst hr
    refine j_ifnull (pc' := 10) (tg := 15) rfl rfl dX1_kindAt_7 (fun hh => by cases hh) (fun _ _ => ?_)
    refine j_aload_n (pc' := 11) rfl rfl dX1_kindAt_10 ?_
    refine j_getf (pc' := 14) fg_RX1_29 (hp_e rfl) rfl rfl dX1_kindAt_11 ?_
    obtain rfl := Option.some.inj hk
    exact j_iret rfl ⟨rfl, rfl⟩ dX1_kindAt_14 hP
theorem LH_kindAt {σ σ' : Mem} {x1 : Int32} {r : Int32} (hk : kH_kindAt σ x1 = some (r, σ')) : M l D dA H0 yX1_kindAt YH_kindAt [vR (some (2, 0)), vI x1] (hp σ) (fun x h' => x = some (vI r) ∧ h' = hp σ') :=
  m_of (j := 1) (by decide) rfl (fun hh => by cases hh) ⟨fun _ _ => trivial, rfl⟩ (le_b rfl) (qH_kindAt hk ⟨rfl, rfl⟩)
theorem qH_putRoom {σ : Mem} {x1 : Int32} {x2 : Nat} {res : Unit × Mem} (hk : kH_putRoom σ x1 x2 = some res) (hP : Po none (hp res.2)) : J l D dA H0 YH_putRoom h0 Po 0 0 (hp σ) 0 [some (vR (some (2, 0))), some (vI x1), some (vR (some (20, x2)))] [] := by
  unfold kH_putRoom at hk
  refine j_iload_n (pc' := 1) rfl rfl dX1_putRoom_0 ?_
  obtain ⟨⟨r1, σ2⟩, hx, hk⟩ := of_bind hk
  refine j_cs1 (pc' := 4) (LG_isPlace hx) cs_RX1_21 ⟨le_b rfl, le_b rfl⟩ rfl (le_b rfl) ⟨rfl, rfl⟩ ⟨le_b rfl, le_b rfl⟩ rfl rfl dX1_putRoom_1 ?_
  refine j_if_eq (pc' := 7) (tg := 14) rfl rfl dX1_putRoom_4 (fun c4 => ?_) (fun c4 => ?_)
  · have hk := (if_pos c4).symm.trans hk
    obtain rfl := Option.some.inj hk
    exact j_ret rfl ⟨rfl, rfl⟩ dX1_putRoom_14 hP
  · have hk := (if_neg c4).symm.trans hk
    refine j_aload_n (pc' := 8) rfl rfl dX1_putRoom_7 ?_
    refine j_getf (pc' := 11) fg_RX1_11 (hp_e rfl) rfl rfl dX1_putRoom_8 ?_
    refine j_iload_n (pc' := 12) rfl rfl dX1_putRoom_11 ?_
    refine j_aload_n (pc' := 13) rfl rfl dX1_putRoom_12 ?_
    obtain ⟨g3, hk⟩ := of_ite hk
    refine j_sr (pc' := 14) (le_b rfl) rfl (fun _ _ _ => rfl) rfl rfl (inR_in g3) rfl dX1_putRoom_13 ?_
    obtain rfl := Option.some.inj hk
    exact j_ret rfl ⟨rfl, rfl⟩ dX1_putRoom_14 hP
theorem LH_putRoom {σ σ' : Mem} {x1 : Int32} {x2 : Nat} {r : Unit} (hk : kH_putRoom σ x1 x2 = some (r, σ')) : M l D dA H0 yX1_putRoom YH_putRoom [vR (some (2, 0)), vI x1, vR (some (20, x2))] (hp σ) (fun x h' => x = none ∧ h' = hp σ') :=
  m_of (j := 0) (by decide) rfl (fun hh => by cases hh) ⟨fun _ _ => trivial, rfl⟩ (le_b rfl) (qH_putRoom hk ⟨rfl, rfl⟩)
theorem qH_putStore {σ : Mem} {x1 : Int32} {res : Unit × Mem} (hk : kH_putStore σ x1 = some res) (hP : Po none (hp res.2)) : J l D dA H0 YH_putStore h0 Po 0 0 (hp σ) 0 [some (vR (some (2, 0))), some (vI x1)] [] := by
  unfold kH_putStore at hk
  refine j_iload_n (pc' := 1) rfl rfl dX1_putStore_0 ?_
  obtain ⟨⟨r1, σ2⟩, hx, hk⟩ := of_bind hk
  refine j_cs1 (pc' := 4) (LG_isPlace hx) cs_RX1_21 ⟨le_b rfl, le_b rfl⟩ rfl (le_b rfl) ⟨rfl, rfl⟩ ⟨le_b rfl, le_b rfl⟩ rfl rfl dX1_putStore_1 ?_
  refine j_if_eq (pc' := 7) (tg := 14) rfl rfl dX1_putStore_4 (fun c4 => ?_) (fun c4 => ?_)
  · have hk := (if_pos c4).symm.trans hk
    obtain rfl := Option.some.inj hk
    exact j_ret rfl ⟨rfl, rfl⟩ dX1_putStore_14 hP
  · have hk := (if_neg c4).symm.trans hk
    refine j_aload_n (pc' := 8) rfl rfl dX1_putStore_7 ?_
    refine j_getf (pc' := 11) fg_RX1_17 (hp_e rfl) rfl rfl dX1_putStore_8 ?_
    refine j_iload_n (pc' := 12) rfl rfl dX1_putStore_11 ?_
    refine j_iconst (pc' := 13) (v := 1) rfl rfl dX1_putStore_12 ?_
    obtain ⟨g3, hk⟩ := of_ite hk
    refine j_sz (pc' := 14) (fun _ _ _ => rfl) (inR_in g3) rfl dX1_putStore_13 ?_
    obtain rfl := Option.some.inj hk
    exact j_ret rfl ⟨rfl, rfl⟩ dX1_putStore_14 hP
theorem LH_putStore {σ σ' : Mem} {x1 : Int32} {r : Unit} (hk : kH_putStore σ x1 = some (r, σ')) : M l D dA H0 yX1_putStore YH_putStore [vR (some (2, 0)), vI x1] (hp σ) (fun x h' => x = none ∧ h' = hp σ') :=
  m_of (j := 0) (by decide) rfl (fun hh => by cases hh) ⟨fun _ _ => trivial, rfl⟩ (le_b rfl) (qH_putStore hk ⟨rfl, rfl⟩)
theorem qH_join {σ : Mem} {x1 : Int32} {o2 : Option AV} {o3 : Option AV} {res : Int32 × Mem} (hk : kH_join σ x1 = some res) (hP : Po (some (vI res.1)) (hp res.2)) : J l D dA H0 YH_join h0 Po 0 0 (hp σ) 0 [some (vR (some (2, 0))), some (vI x1), o2, o3] [] := by
  unfold kH_join at hk
  refine j_iload_n (pc' := 1) rfl rfl dX1_join_0 ?_
  obtain ⟨⟨r1, σ2⟩, hx, hk⟩ := of_bind hk
  refine j_cs1 (pc' := 4) (LG_isPlace hx) cs_RX1_21 ⟨le_b rfl, le_b rfl⟩ rfl (le_b rfl) ⟨rfl, rfl⟩ ⟨le_b rfl, le_b rfl⟩ rfl rfl dX1_join_1 ?_
  refine j_if_eq (pc' := 7) (tg := 16) rfl rfl dX1_join_4 (fun c17 => ?_) (fun c17 => ?_)
  · have hk := (if_pos c17).symm.trans hk
    refine j_iconst (pc' := 17) (v := 0) rfl rfl dX1_join_16 ?_
    obtain rfl := Option.some.inj hk
    exact j_zret rfl rfl ⟨rfl, rfl⟩ dX1_join_17 hP
  · have hk := (if_neg c17).symm.trans hk
    refine j_iload_n (pc' := 8) rfl rfl dX1_join_7 ?_
    refine j_iconst (pc' := 9) (v := 1) rfl rfl dX1_join_8 ?_
    refine j_iadd (pc' := 10) rfl dX1_join_9 ?_
    obtain ⟨⟨r3, σ4⟩, hx, hk⟩ := of_bind hk
    refine j_cs1 (pc' := 13) (LG_isPlace hx) cs_RX1_21 ⟨le_b rfl, le_b rfl⟩ rfl (le_b rfl) ⟨rfl, rfl⟩ ⟨le_b rfl, le_b rfl⟩ rfl rfl dX1_join_10 ?_
    refine j_if_ne (pc' := 16) (tg := 18) rfl rfl dX1_join_13 (fun c16 => ?_) (fun c16 => ?_)
    · have hk := (if_neg c16).symm.trans hk
      refine j_aload_n (pc' := 19) rfl rfl dX1_join_18 ?_
      refine j_getf (pc' := 22) fg_RX1_11 (hp_e rfl) rfl rfl dX1_join_19 ?_
      refine j_iload_n (pc' := 23) rfl rfl dX1_join_22 ?_
      obtain ⟨g5, hk⟩ := of_ite hk
      refine j_aald (pc' := 24) ⟨le_b rfl, lt_b rfl⟩ (hp_e rfl) (inR_in g5) rfl dX1_join_23 ?_
      rcases of_elim hk with ⟨hr, hk⟩ | ⟨j6, hr, hk⟩
      · refine j_top (v' := vR none) (congrArg (fun o => vR (Option.map (Prod.mk 20) o)) hr) ?_
        refine j_astore_n (pc' := 25) (lt_b rfl) rfl rfl dX1_join_24 ?_
        refine j_aload_n (pc' := 26) rfl rfl dX1_join_25 ?_
        refine j_getf (pc' := 29) fg_RX1_11 (hp_e rfl) rfl rfl dX1_join_26 ?_
        refine j_iload_n (pc' := 30) rfl rfl dX1_join_29 ?_
        refine j_iconst (pc' := 31) (v := 1) rfl rfl dX1_join_30 ?_
        refine j_iadd (pc' := 32) rfl dX1_join_31 ?_
        obtain ⟨g7, hk⟩ := of_ite hk
        refine j_aald (pc' := 33) ⟨le_b rfl, lt_b rfl⟩ (hp_e rfl) (inR_in g7) rfl dX1_join_32 ?_
        rcases of_elim hk with ⟨hr, hk⟩ | ⟨j8, hr, hk⟩
        · refine j_top (v' := vR none) (congrArg (fun o => vR (Option.map (Prod.mk 20) o)) hr) ?_
          refine j_astore_n (pc' := 34) (lt_b rfl) rfl rfl dX1_join_33 ?_
          refine j_aload_n (pc' := 35) rfl rfl dX1_join_34 ?_
          refine j_ifnull (pc' := 38) (tg := 58) rfl rfl dX1_join_35 (fun _ => ?_) (fun _ hh => by cases hh)
          refine j_iconst (pc' := 59) (v := 0) rfl rfl dX1_join_58 ?_
          obtain rfl := Option.some.inj hk
          exact j_zret rfl rfl ⟨rfl, rfl⟩ dX1_join_59 hP
        · refine j_top (v' := vR (some (20, j8))) (congrArg (fun o => vR (Option.map (Prod.mk 20) o)) hr) ?_
          refine j_astore_n (pc' := 34) (lt_b rfl) rfl rfl dX1_join_33 ?_
          refine j_aload_n (pc' := 35) rfl rfl dX1_join_34 ?_
          refine j_ifnull (pc' := 38) (tg := 58) rfl rfl dX1_join_35 (fun _ => ?_) (fun _ hh => by cases hh)
          refine j_iconst (pc' := 59) (v := 0) rfl rfl dX1_join_58 ?_
          obtain rfl := Option.some.inj hk
          exact j_zret rfl rfl ⟨rfl, rfl⟩ dX1_join_59 hP
      · refine j_top (v' := vR (some (20, j6))) (congrArg (fun o => vR (Option.map (Prod.mk 20) o)) hr) ?_
        refine j_astore_n (pc' := 25) (lt_b rfl) rfl rfl dX1_join_24 ?_
        refine j_aload_n (pc' := 26) rfl rfl dX1_join_25 ?_
        refine j_getf (pc' := 29) fg_RX1_11 (hp_e rfl) rfl rfl dX1_join_26 ?_
        refine j_iload_n (pc' := 30) rfl rfl dX1_join_29 ?_
        refine j_iconst (pc' := 31) (v := 1) rfl rfl dX1_join_30 ?_
        refine j_iadd (pc' := 32) rfl dX1_join_31 ?_
        obtain ⟨g9, hk⟩ := of_ite hk
        refine j_aald (pc' := 33) ⟨le_b rfl, lt_b rfl⟩ (hp_e rfl) (inR_in g9) rfl dX1_join_32 ?_
        rcases of_elim hk with ⟨hr, hk⟩ | ⟨j10, hr, hk⟩
        · refine j_top (v' := vR none) (congrArg (fun o => vR (Option.map (Prod.mk 20) o)) hr) ?_
          refine j_astore_n (pc' := 34) (lt_b rfl) rfl rfl dX1_join_33 ?_
          refine j_aload_n (pc' := 35) rfl rfl dX1_join_34 ?_
          refine j_ifnull (pc' := 38) (tg := 58) rfl rfl dX1_join_35 (fun hh => by cases hh) (fun _ _ => ?_)
          refine j_aload_n (pc' := 39) rfl rfl dX1_join_38 ?_
          refine j_ifnull (pc' := 42) (tg := 58) rfl rfl dX1_join_39 (fun _ => ?_) (fun _ hh => by cases hh)
          refine j_iconst (pc' := 59) (v := 0) rfl rfl dX1_join_58 ?_
          obtain rfl := Option.some.inj hk
          exact j_zret rfl rfl ⟨rfl, rfl⟩ dX1_join_59 hP
        · refine j_top (v' := vR (some (20, j10))) (congrArg (fun o => vR (Option.map (Prod.mk 20) o)) hr) ?_
          refine j_astore_n (pc' := 34) (lt_b rfl) rfl rfl dX1_join_33 ?_
          refine j_aload_n (pc' := 35) rfl rfl dX1_join_34 ?_
          refine j_ifnull (pc' := 38) (tg := 58) rfl rfl dX1_join_35 (fun hh => by cases hh) (fun _ _ => ?_)
          refine j_aload_n (pc' := 39) rfl rfl dX1_join_38 ?_
          refine j_ifnull (pc' := 42) (tg := 58) rfl rfl dX1_join_39 (fun hh => by cases hh) (fun _ _ => ?_)
          refine j_aload_n (pc' := 43) rfl rfl dX1_join_42 ?_
          refine j_getf (pc' := 46) fg_RX1_29 (hp_e rfl) rfl rfl dX1_join_43 ?_
          refine j_iconst (pc' := 47) (v := 1) rfl rfl dX1_join_46 ?_
          refine j_ic_ne (pc' := 50) (tg := 58) rfl rfl dX1_join_47 (fun c15 => ?_) (fun c15 => ?_)
          · have hk := (if_neg c15).symm.trans hk
            refine j_iconst (pc' := 59) (v := 0) rfl rfl dX1_join_58 ?_
            obtain rfl := Option.some.inj hk
            exact j_zret rfl rfl ⟨rfl, rfl⟩ dX1_join_59 hP
          · have hk := (if_pos c15).symm.trans hk
            refine j_aload_n (pc' := 51) rfl rfl dX1_join_50 ?_
            refine j_getf (pc' := 54) fg_RX1_29 (hp_e rfl) rfl rfl dX1_join_51 ?_
            refine j_iconst (pc' := 55) (v := 1) rfl rfl dX1_join_54 ?_
            refine j_ic_eq (pc' := 58) (tg := 60) rfl rfl dX1_join_55 (fun c14 => ?_) (fun c14 => ?_)
            · have hk := (if_pos c14).symm.trans hk
              refine j_aload_n (pc' := 61) rfl rfl dX1_join_60 ?_
              refine j_getf (pc' := 64) fg_RX1_33 (hp_e rfl) rfl rfl dX1_join_61 ?_
              refine j_aload_n (pc' := 65) rfl rfl dX1_join_64 ?_
              refine j_getf (pc' := 68) fg_RX1_33 (hp_e rfl) rfl rfl dX1_join_65 ?_
              refine j_ic_ne (pc' := 71) (tg := 87) rfl rfl dX1_join_68 (fun c13 => ?_) (fun c13 => ?_)
              · have hk := (if_neg c13).symm.trans hk
                refine j_iconst (pc' := 88) (v := 0) rfl rfl dX1_join_87 ?_
                obtain rfl := Option.some.inj hk
                exact j_zret rfl rfl ⟨rfl, rfl⟩ dX1_join_88 hP
              · have hk := (if_pos c13).symm.trans hk
                refine j_aload_n (pc' := 72) rfl rfl dX1_join_71 ?_
                refine j_getf (pc' := 75) fg_RX1_36 (hp_e rfl) rfl rfl dX1_join_72 ?_
                refine j_iconst (pc' := 76) (v := (-1)) rfl rfl dX1_join_75 ?_
                refine j_ic_ne (pc' := 79) (tg := 87) rfl rfl dX1_join_76 (fun c12 => ?_) (fun c12 => ?_)
                · have hk := (if_neg c12).symm.trans hk
                  refine j_iconst (pc' := 88) (v := 0) rfl rfl dX1_join_87 ?_
                  obtain rfl := Option.some.inj hk
                  exact j_zret rfl rfl ⟨rfl, rfl⟩ dX1_join_88 hP
                · have hk := (if_pos c12).symm.trans hk
                  refine j_aload_n (pc' := 80) rfl rfl dX1_join_79 ?_
                  refine j_getf (pc' := 83) fg_RX1_36 (hp_e rfl) rfl rfl dX1_join_80 ?_
                  refine j_iconst (pc' := 84) (v := (-1)) rfl rfl dX1_join_83 ?_
                  refine j_ic_eq (pc' := 87) (tg := 89) rfl rfl dX1_join_84 (fun c11 => ?_) (fun c11 => ?_)
                  · have hk := (if_pos c11).symm.trans hk
                    refine j_aload_n (pc' := 90) rfl rfl dX1_join_89 ?_
                    refine j_iload_n (pc' := 91) rfl rfl dX1_join_90 ?_
                    refine j_iconst (pc' := 92) (v := 1) rfl rfl dX1_join_91 ?_
                    refine j_iadd (pc' := 93) rfl dX1_join_92 ?_
                    refine j_pi (pc' := 96) (ty := .int) fg_RX1_36 ttX4 rfl rfl ⟨rfl, rfl⟩ rfl (lt_b rfl) rfl rfl dX1_join_93 ?_
                    refine j_aload_n (pc' := 97) rfl rfl dX1_join_96 ?_
                    refine j_iload_n (pc' := 98) rfl rfl dX1_join_97 ?_
                    refine j_pi (pc' := 101) (ty := .int) fg_RX1_36 ttX4 rfl rfl ⟨rfl, rfl⟩ rfl (lt_b rfl) rfl rfl dX1_join_98 ?_
                    refine j_iconst (pc' := 102) (v := 1) rfl rfl dX1_join_101 ?_
                    obtain rfl := Option.some.inj hk
                    exact j_zret rfl rfl ⟨rfl, rfl⟩ dX1_join_102 hP
                  · have hk := (if_neg c11).symm.trans hk
                    refine j_iconst (pc' := 88) (v := 0) rfl rfl dX1_join_87 ?_
                    obtain rfl := Option.some.inj hk
                    exact j_zret rfl rfl ⟨rfl, rfl⟩ dX1_join_88 hP
            · have hk := (if_neg c14).symm.trans hk
              refine j_iconst (pc' := 59) (v := 0) rfl rfl dX1_join_58 ?_
              obtain rfl := Option.some.inj hk
              exact j_zret rfl rfl ⟨rfl, rfl⟩ dX1_join_59 hP
    · have hk := (if_pos c16).symm.trans hk
      refine j_iconst (pc' := 17) (v := 0) rfl rfl dX1_join_16 ?_
      obtain rfl := Option.some.inj hk
      exact j_zret rfl rfl ⟨rfl, rfl⟩ dX1_join_17 hP
theorem LH_join {σ σ' : Mem} {x1 : Int32} {r : Int32} (hk : kH_join σ x1 = some (r, σ')) : M l D dA H0 yX1_join YH_join [vR (some (2, 0)), vI x1] (hp σ) (fun x h' => x = some (vI r) ∧ h' = hp σ') :=
  m_of (j := 2) (by decide) rfl (fun hh => by cases hh) ⟨fun _ _ => trivial, rfl⟩ (le_b rfl) (qH_join hk ⟨rfl, rfl⟩)
theorem qR_stateIn {σ : Mem} {x0 : Nat} {x1 : Int32} {res : Int32 × Mem} (hk : kR_stateIn σ x0 x1 = some res) (hP : Po (some (vI res.1)) (hp res.2)) : J l D dA H0 YR_stateIn h0 Po 0 0 (hp σ) 0 [some (vR (some (20, x0))), some (vI x1)] [] := by
  unfold kR_stateIn at hk
  refine j_aload_n (pc' := 1) rfl rfl dX4_stateIn_0 ?_
  refine j_getf (pc' := 4) fg_RX4_27 (hp_e rfl) rfl rfl dX4_stateIn_1 ?_
  refine j_if_eq (pc' := 7) (tg := 10) rfl rfl dX4_stateIn_4 (fun c4 => ?_) (fun c4 => ?_)
  · have hk := (if_pos c4).symm.trans hk
    refine j_iload_n (pc' := 11) rfl rfl dX4_stateIn_10 ?_
    refine j_if_lt (pc' := 14) (tg := 22) rfl rfl dX4_stateIn_11 (fun c3 => ?_) (fun c3 => ?_)
    · have hk := (if_pos c3).symm.trans hk
      refine j_iconst (pc' := 23) (v := (-1)) rfl rfl dX4_stateIn_22 ?_
      obtain rfl := Option.some.inj hk
      exact j_iret rfl ⟨rfl, rfl⟩ dX4_stateIn_23 hP
    · have hk := (if_neg c3).symm.trans hk
      refine j_iload_n (pc' := 15) rfl rfl dX4_stateIn_14 ?_
      refine j_aload_n (pc' := 16) rfl rfl dX4_stateIn_15 ?_
      refine j_getf (pc' := 19) fg_RX4_24 (hp_e rfl) rfl rfl dX4_stateIn_16 ?_
      refine j_ic_lt (pc' := 22) (tg := 24) rfl rfl dX4_stateIn_19 (fun c2 => ?_) (fun c2 => ?_)
      · have hk := (if_pos c2).symm.trans hk
        refine j_aload_n (pc' := 25) rfl rfl dX4_stateIn_24 ?_
        refine j_getf (pc' := 28) fg_RX4_31 (hp_e rfl) rfl rfl dX4_stateIn_25 ?_
        refine j_iload_n (pc' := 29) rfl rfl dX4_stateIn_28 ?_
        refine j_lshr (pc' := 30) rfl dX4_stateIn_29 ?_
        refine j_lconst (pc' := 31) (v := 1) rfl rfl dX4_stateIn_30 ?_
        refine j_land (pc' := 32) rfl dX4_stateIn_31 ?_
        refine j_lconst (pc' := 33) (v := 0) rfl rfl dX4_stateIn_32 ?_
        refine j_lcmp (pc' := 34) rfl dX4_stateIn_33 ?_
        refine j_if_ne (pc' := 37) (tg := 41) rfl rfl dX4_stateIn_34 (fun c1 => ?_) (fun c1 => ?_)
        · have hk := (if_neg c1).symm.trans hk
          refine j_iconst (pc' := 42) (v := 0) rfl rfl dX4_stateIn_41 ?_
          obtain rfl := Option.some.inj hk
          exact j_iret rfl ⟨rfl, rfl⟩ dX4_stateIn_42 hP
        · have hk := (if_pos c1).symm.trans hk
          refine j_iconst (pc' := 38) (v := 1) rfl rfl dX4_stateIn_37 ?_
          refine j_goto (tg := 42) rfl dX4_stateIn_38 ?_
          obtain rfl := Option.some.inj hk
          exact j_iret rfl ⟨rfl, rfl⟩ dX4_stateIn_42 hP
      · have hk := (if_neg c2).symm.trans hk
        refine j_iconst (pc' := 23) (v := (-1)) rfl rfl dX4_stateIn_22 ?_
        obtain rfl := Option.some.inj hk
        exact j_iret rfl ⟨rfl, rfl⟩ dX4_stateIn_23 hP
  · have hk := (if_neg c4).symm.trans hk
    refine j_bipush (pc' := 9) (v := (-2)) rfl rfl dX4_stateIn_7 ?_
    obtain rfl := Option.some.inj hk
    exact j_iret rfl ⟨rfl, rfl⟩ dX4_stateIn_9 hP
theorem LR_stateIn {σ σ' : Mem} {x0 : Nat} {x1 : Int32} {r : Int32} (hk : kR_stateIn σ x0 x1 = some (r, σ')) : M l D dA H0 yX4_stateIn YR_stateIn [vR (some (20, x0)), vI x1] (hp σ) (fun x h' => x = some (vI r) ∧ h' = hp σ') :=
  m_of (j := 0) (by decide) rfl (fun hh => by cases hh) ⟨fun _ _ => trivial, rfl⟩ (le_b rfl) (qR_stateIn hk ⟨rfl, rfl⟩)
theorem qR_isOpen {σ : Mem} {x0 : Nat} {x1 : Int32} {res : Int32 × Mem} (hk : kR_isOpen σ x0 x1 = some res) (hP : Po (some (vI res.1)) (hp res.2)) : J l D dA H0 YR_isOpen h0 Po 0 0 (hp σ) 0 [some (vR (some (20, x0))), some (vI x1)] [] := by
  unfold kR_isOpen at hk
  refine j_aload_n (pc' := 1) rfl rfl dX4_isOpen_0 ?_
  refine j_iload_n (pc' := 2) rfl rfl dX4_isOpen_1 ?_
  obtain ⟨⟨r1, σ2⟩, hx, hk⟩ := of_bind hk
  refine j_cv1 (pc' := 5) (LR_stateIn hx) cv_RX4_35 ⟨le_b rfl, le_b rfl⟩ (hp_e rfl) rfl rfl (le_b rfl) ⟨rfl, rfl⟩ ⟨le_b rfl, le_b rfl⟩ rfl rfl dX4_isOpen_2 ?_
  refine j_iconst (pc' := 6) (v := 1) rfl rfl dX4_isOpen_5 ?_
  refine j_ic_ne (pc' := 9) (tg := 13) rfl rfl dX4_isOpen_6 (fun c3 => ?_) (fun c3 => ?_)
  · have hk := (if_neg c3).symm.trans hk
    refine j_iconst (pc' := 14) (v := 0) rfl rfl dX4_isOpen_13 ?_
    obtain rfl := Option.some.inj hk
    exact j_zret rfl rfl ⟨rfl, rfl⟩ dX4_isOpen_14 hP
  · have hk := (if_pos c3).symm.trans hk
    refine j_iconst (pc' := 10) (v := 1) rfl rfl dX4_isOpen_9 ?_
    refine j_goto (tg := 14) rfl dX4_isOpen_10 ?_
    obtain rfl := Option.some.inj hk
    exact j_zret rfl rfl ⟨rfl, rfl⟩ dX4_isOpen_14 hP
theorem LR_isOpen {σ σ' : Mem} {x0 : Nat} {x1 : Int32} {r : Int32} (hk : kR_isOpen σ x0 x1 = some (r, σ')) : M l D dA H0 yX4_isOpen YR_isOpen [vR (some (20, x0)), vI x1] (hp σ) (fun x h' => x = some (vI r) ∧ h' = hp σ') :=
  m_of (j := 0) (by decide) rfl (fun hh => by cases hh) ⟨fun _ _ => trivial, rfl⟩ (le_b rfl) (qR_isOpen hk ⟨rfl, rfl⟩)
theorem qH_isOpenOfKind {σ : Mem} {x1 : Int32} {x2 : Int32} {x3 : Int32} {o4 : Option AV} {res : Int32 × Mem} (hk : kH_isOpenOfKind σ x1 x2 x3 = some res) (hP : Po (some (vI res.1)) (hp res.2)) : J l D dA H0 YH_isOpenOfKind h0 Po 0 0 (hp σ) 0 [some (vR (some (2, 0))), some (vI x1), some (vI x2), some (vI x3), o4] [] := by
  unfold kH_isOpenOfKind at hk
  refine j_aload_n (pc' := 1) rfl rfl dX1_isOpenOfKind_0 ?_
  refine j_iload_n (pc' := 2) rfl rfl dX1_isOpenOfKind_1 ?_
  obtain ⟨⟨r1, σ2⟩, hx, hk⟩ := of_bind hk
  refine j_cv1 (pc' := 5) (LH_roomAt hx) cv_RX1_25 ⟨le_b rfl, le_b rfl⟩ (hp_e rfl) rfl rfl (le_b rfl) ⟨rfl, rfl⟩ ⟨le_b rfl, le_b rfl⟩ rfl rfl dX1_isOpenOfKind_2 ?_
  refine j_astore (pc' := 7) (lt_b rfl) rfl rfl dX1_isOpenOfKind_5 ?_
  refine j_aload (pc' := 9) rfl rfl dX1_isOpenOfKind_7 ?_
  rcases of_elim hk with ⟨hr, hk⟩ | ⟨j3, hr, hk⟩
  · subst hr
    refine j_ifnull (pc' := 12) (tg := 34) rfl rfl dX1_isOpenOfKind_9 (fun _ => ?_) (fun _ hh => by cases hh)
    refine j_iconst (pc' := 35) (v := 0) rfl rfl dX1_isOpenOfKind_34 ?_
    obtain rfl := Option.some.inj hk
    exact j_zret rfl rfl ⟨rfl, rfl⟩ dX1_isOpenOfKind_35 hP
  · subst hr
    refine j_ifnull (pc' := 12) (tg := 34) rfl rfl dX1_isOpenOfKind_9 (fun hh => by cases hh) (fun _ _ => ?_)
    refine j_aload (pc' := 14) rfl rfl dX1_isOpenOfKind_12 ?_
    refine j_getf (pc' := 17) fg_RX1_29 (hp_e rfl) rfl rfl dX1_isOpenOfKind_14 ?_
    refine j_iload_n (pc' := 18) rfl rfl dX1_isOpenOfKind_17 ?_
    refine j_ic_ne (pc' := 21) (tg := 34) rfl rfl dX1_isOpenOfKind_18 (fun c7 => ?_) (fun c7 => ?_)
    · have hk := (if_neg c7).symm.trans hk
      refine j_iconst (pc' := 35) (v := 0) rfl rfl dX1_isOpenOfKind_34 ?_
      obtain rfl := Option.some.inj hk
      exact j_zret rfl rfl ⟨rfl, rfl⟩ dX1_isOpenOfKind_35 hP
    · have hk := (if_pos c7).symm.trans hk
      refine j_aload (pc' := 23) rfl rfl dX1_isOpenOfKind_21 ?_
      refine j_iload_n (pc' := 24) rfl rfl dX1_isOpenOfKind_23 ?_
      obtain ⟨⟨r4, σ5⟩, hx, hk⟩ := of_bind hk
      refine j_cv1 (pc' := 27) (LR_isOpen hx) cv_RX1_39 ⟨le_b rfl, le_b rfl⟩ (hp_e rfl) rfl rfl (le_b rfl) ⟨rfl, rfl⟩ ⟨le_b rfl, le_b rfl⟩ rfl rfl dX1_isOpenOfKind_24 ?_
      refine j_if_eq (pc' := 30) (tg := 34) rfl rfl dX1_isOpenOfKind_27 (fun c6 => ?_) (fun c6 => ?_)
      · have hk := (if_pos c6).symm.trans hk
        refine j_iconst (pc' := 35) (v := 0) rfl rfl dX1_isOpenOfKind_34 ?_
        obtain rfl := Option.some.inj hk
        exact j_zret rfl rfl ⟨rfl, rfl⟩ dX1_isOpenOfKind_35 hP
      · have hk := (if_neg c6).symm.trans hk
        refine j_iconst (pc' := 31) (v := 1) rfl rfl dX1_isOpenOfKind_30 ?_
        refine j_goto (tg := 35) rfl dX1_isOpenOfKind_31 ?_
        obtain rfl := Option.some.inj hk
        exact j_zret rfl rfl ⟨rfl, rfl⟩ dX1_isOpenOfKind_35 hP
theorem LH_isOpenOfKind {σ σ' : Mem} {x1 : Int32} {x2 : Int32} {x3 : Int32} {r : Int32} (hk : kH_isOpenOfKind σ x1 x2 x3 = some (r, σ')) : M l D dA H0 yX1_isOpenOfKind YH_isOpenOfKind [vR (some (2, 0)), vI x1, vI x2, vI x3] (hp σ) (fun x h' => x = some (vI r) ∧ h' = hp σ') :=
  m_of (j := 1) (by decide) rfl (fun hh => by cases hh) ⟨fun _ _ => trivial, rfl⟩ (le_b rfl) (qH_isOpenOfKind hk ⟨rfl, rfl⟩)
theorem qR_units {σ : Mem} {x0 : Nat} {res : Int32 × Mem} (hk : kR_units σ x0 = some res) (hP : Po (some (vI res.1)) (hp res.2)) : J l D dA H0 YR_units h0 Po 0 0 (hp σ) 0 [some (vR (some (20, x0)))] [] := by
  unfold kR_units at hk
  refine j_aload_n (pc' := 1) rfl rfl dX4_units_0 ?_
  refine j_getf (pc' := 4) fg_RX4_15 (hp_e rfl) rfl rfl dX4_units_1 ?_
  refine j_iconst (pc' := 5) (v := 3) rfl rfl dX4_units_4 ?_
  refine j_ic_ne (pc' := 8) (tg := 15) rfl rfl dX4_units_5 (fun c1 => ?_) (fun c1 => ?_)
  · have hk := (if_neg c1).symm.trans hk
    refine j_iconst (pc' := 16) (v := 1) rfl rfl dX4_units_15 ?_
    obtain rfl := Option.some.inj hk
    exact j_iret rfl ⟨rfl, rfl⟩ dX4_units_16 hP
  · have hk := (if_pos c1).symm.trans hk
    refine j_aload_n (pc' := 9) rfl rfl dX4_units_8 ?_
    refine j_getf (pc' := 12) fg_RX4_21 (hp_e rfl) rfl rfl dX4_units_9 ?_
    refine j_goto (tg := 16) rfl dX4_units_12 ?_
    obtain rfl := Option.some.inj hk
    exact j_iret rfl ⟨rfl, rfl⟩ dX4_units_16 hP
theorem LR_units {σ σ' : Mem} {x0 : Nat} {r : Int32} (hk : kR_units σ x0 = some (r, σ')) : M l D dA H0 yX4_units YR_units [vR (some (20, x0))] (hp σ) (fun x h' => x = some (vI r) ∧ h' = hp σ') :=
  m_of (j := 0) (by decide) rfl (fun hh => by cases hh) ⟨fun _ _ => trivial, rfl⟩ (le_b rfl) (qR_units hk ⟨rfl, rfl⟩)
theorem qH_openUnits_s5 {σ : Mem} {x1 : Int32} {x2 : Int32} {x3 : Int32} {x4 : Int32} {o5 : Option AV} {out : (Int32 × Int32 × Mem) ⊕ (Int32 × Mem)} (hk : kH_openUnits_s5 x1 x2 (x3, x4, σ) = some out) (hc : ∀ (z3 : Int32) (z4 : Int32) (ς : Mem), out = .inl (z3, z4, ς) → ∀ (o5 : Option AV), J l D dA H0 YH_openUnits h0 Po 0 0 (hp ς) 5 [some (vR (some (2, 0))), some (vI x1), some (vI x2), some (vI z3), some (vI z4), o5] []) (hx0 : ∀ (z3 : Int32) (ς : Mem), out = .inr (z3, ς) → ∀ (o0 o1 o2 o4 o5 : Option AV), J l D dA H0 YH_openUnits h0 Po 0 0 (hp ς) 58 [o0, o1, o2, some (vI z3), o4, o5] []) : J l D dA H0 YH_openUnits h0 Po 0 0 (hp σ) 5 [some (vR (some (2, 0))), some (vI x1), some (vI x2), some (vI x3), some (vI x4), o5] [] := by
  unfold kH_openUnits_s5 at hk
  refine j_iload (pc' := 7) rfl rfl dX1_openUnits_5 ?_
  refine j_bipush (pc' := 9) (v := 16) rfl rfl dX1_openUnits_7 ?_
  refine j_ic_ge (pc' := 12) (tg := 58) rfl rfl dX1_openUnits_9 (fun c9 => ?_) (fun c9 => ?_)
  · have hk := (if_pos c9).symm.trans hk
    obtain rfl := Option.some.inj hk
    exact hx0 _ _ rfl _ _ _ _ _
  · have hk := (if_neg c9).symm.trans hk
    refine j_aload_n (pc' := 13) rfl rfl dX1_openUnits_12 ?_
    refine j_getf (pc' := 16) fg_RX1_11 (hp_e rfl) rfl rfl dX1_openUnits_13 ?_
    refine j_iload (pc' := 18) rfl rfl dX1_openUnits_16 ?_
    obtain ⟨g1, hk⟩ := of_ite hk
    refine j_aald (pc' := 19) ⟨le_b rfl, lt_b rfl⟩ (hp_e rfl) (inR_in g1) rfl dX1_openUnits_18 ?_
    rcases of_elim hk with ⟨hr, hk⟩ | ⟨j2, hr, hk⟩
    · refine j_top (v' := vR none) (congrArg (fun o => vR (Option.map (Prod.mk 20) o)) hr) ?_
      refine j_astore (pc' := 21) (lt_b rfl) rfl rfl dX1_openUnits_19 ?_
      refine j_aload (pc' := 23) rfl rfl dX1_openUnits_21 ?_
      refine j_ifnull (pc' := 26) (tg := 52) rfl rfl dX1_openUnits_23 (fun _ => ?_) (fun _ hh => by cases hh)
      refine j_iinc (pc' := 55) (v := x4 + 1) rfl rfl (lt_b rfl) rfl rfl dX1_openUnits_52 ?_
      refine j_goto (tg := 5) rfl dX1_openUnits_55 ?_
      obtain rfl := Option.some.inj hk
      exact hc _ _ _ rfl _
    · refine j_top (v' := vR (some (20, j2))) (congrArg (fun o => vR (Option.map (Prod.mk 20) o)) hr) ?_
      refine j_astore (pc' := 21) (lt_b rfl) rfl rfl dX1_openUnits_19 ?_
      refine j_aload (pc' := 23) rfl rfl dX1_openUnits_21 ?_
      refine j_ifnull (pc' := 26) (tg := 52) rfl rfl dX1_openUnits_23 (fun hh => by cases hh) (fun _ _ => ?_)
      refine j_aload (pc' := 28) rfl rfl dX1_openUnits_26 ?_
      refine j_getf (pc' := 31) fg_RX1_29 (hp_e rfl) rfl rfl dX1_openUnits_28 ?_
      refine j_iload_n (pc' := 32) rfl rfl dX1_openUnits_31 ?_
      refine j_ic_ne (pc' := 35) (tg := 52) rfl rfl dX1_openUnits_32 (fun c8 => ?_) (fun c8 => ?_)
      · have hk := (if_neg c8).symm.trans hk
        refine j_iinc (pc' := 55) (v := x4 + 1) rfl rfl (lt_b rfl) rfl rfl dX1_openUnits_52 ?_
        refine j_goto (tg := 5) rfl dX1_openUnits_55 ?_
        obtain rfl := Option.some.inj hk
        exact hc _ _ _ rfl _
      · have hk := (if_pos c8).symm.trans hk
        refine j_aload (pc' := 37) rfl rfl dX1_openUnits_35 ?_
        refine j_iload_n (pc' := 38) rfl rfl dX1_openUnits_37 ?_
        obtain ⟨⟨r3, σ4⟩, hx, hk⟩ := of_bind hk
        refine j_cv1 (pc' := 41) (LR_isOpen hx) cv_RX1_39 ⟨le_b rfl, le_b rfl⟩ (hp_e rfl) rfl rfl (le_b rfl) ⟨rfl, rfl⟩ ⟨le_b rfl, le_b rfl⟩ rfl rfl dX1_openUnits_38 ?_
        refine j_if_eq (pc' := 44) (tg := 52) rfl rfl dX1_openUnits_41 (fun c7 => ?_) (fun c7 => ?_)
        · have hk := (if_pos c7).symm.trans hk
          refine j_iinc (pc' := 55) (v := x4 + 1) rfl rfl (lt_b rfl) rfl rfl dX1_openUnits_52 ?_
          refine j_goto (tg := 5) rfl dX1_openUnits_55 ?_
          obtain rfl := Option.some.inj hk
          exact hc _ _ _ rfl _
        · have hk := (if_neg c7).symm.trans hk
          refine j_iload_n (pc' := 45) rfl rfl dX1_openUnits_44 ?_
          refine j_aload (pc' := 47) rfl rfl dX1_openUnits_45 ?_
          obtain ⟨⟨r5, σ6⟩, hx, hk⟩ := of_bind hk
          refine j_cv1 (pc' := 50) (LR_units hx) cv_RX1_42 ⟨le_b rfl, le_b rfl⟩ (hp_e rfl) rfl rfl (le_b rfl) ⟨rfl, rfl⟩ ⟨le_b rfl, le_b rfl⟩ rfl rfl dX1_openUnits_47 ?_
          refine j_iadd (pc' := 51) rfl dX1_openUnits_50 ?_
          refine j_istore_n (pc' := 52) (lt_b rfl) rfl rfl dX1_openUnits_51 ?_
          refine j_iinc (pc' := 55) (v := x4 + 1) rfl rfl (lt_b rfl) rfl rfl dX1_openUnits_52 ?_
          refine j_goto (tg := 5) rfl dX1_openUnits_55 ?_
          obtain rfl := Option.some.inj hk
          exact hc _ _ _ rfl _
theorem lH_openUnits_s5 {x1 : Int32} {x2 : Int32} : ∀ (n : Nat) (x3 : Int32) (x4 : Int32) (σ : Mem) (e : (Int32 × Mem)), loopF n (kH_openUnits_s5 x1 x2) (x3, x4, σ) = some e → (∀ (z3 : Int32) (ς : Mem), e = (z3, ς) → ∀ (o0 o1 o2 o4 o5 : Option AV), J l D dA H0 YH_openUnits h0 Po 0 0 (hp ς) 58 [o0, o1, o2, some (vI z3), o4, o5] []) → ∀ (o5 : Option AV), J l D dA H0 YH_openUnits h0 Po 0 0 (hp σ) 5 [some (vR (some (2, 0))), some (vI x1), some (vI x2), some (vI x3), some (vI x4), o5] []
  | 0, x3, x4, σ, e, he => by cases he
  | n + 1, x3, x4, σ, e, he => by
    intro hx0 o5
    rcases loopF_succ he with ⟨s', h1, h2⟩ | h1
    · refine qH_openUnits_s5 h1 ?_ ?_
      · intro z3 z4 ς ee
        cases ee
        exact lH_openUnits_s5 n z3 z4 ς e h2 hx0
      · intro z3 ς ee
        cases ee
    · refine qH_openUnits_s5 h1 ?_ ?_
      · intro z3 z4 ς ee
        cases ee
      · intro z3 ς ee
        exact hx0 z3 ς (Sum.inr.inj ee)
theorem qH_openUnits_x58 {σ : Mem} {x3 : Int32} {o0 : Option AV} {o1 : Option AV} {o2 : Option AV} {o4 : Option AV} {o5 : Option AV} {res : Int32 × Mem} (hk : kH_openUnits_x58 σ x3 = some res) (hP : Po (some (vI res.1)) (hp res.2)) : J l D dA H0 YH_openUnits h0 Po 0 0 (hp σ) 58 [o0, o1, o2, some (vI x3), o4, o5] [] := by
  unfold kH_openUnits_x58 at hk
  refine j_iload_n (pc' := 59) rfl rfl dX1_openUnits_58 ?_
  obtain rfl := Option.some.inj hk
  exact j_iret rfl ⟨rfl, rfl⟩ dX1_openUnits_59 hP
theorem qH_openUnits {σ : Mem} {x1 : Int32} {x2 : Int32} {o3 : Option AV} {o4 : Option AV} {o5 : Option AV} {res : Int32 × Mem} (hk : kH_openUnits σ x1 x2 = some res) (hP : Po (some (vI res.1)) (hp res.2)) : J l D dA H0 YH_openUnits h0 Po 0 0 (hp σ) 0 [some (vR (some (2, 0))), some (vI x1), some (vI x2), o3, o4, o5] [] := by
  unfold kH_openUnits at hk
  refine j_iconst (pc' := 1) (v := 0) rfl rfl dX1_openUnits_0 ?_
  refine j_istore_n (pc' := 2) (lt_b rfl) rfl rfl dX1_openUnits_1 ?_
  refine j_iconst (pc' := 3) (v := 0) rfl rfl dX1_openUnits_2 ?_
  refine j_istore (pc' := 5) (lt_b rfl) rfl rfl dX1_openUnits_3 ?_
  obtain ⟨e, he, hk⟩ := of_bind hk
  refine lH_openUnits_s5 FU _ _ _ e he ?_ _
  · intro z3 ς ee _ _ _ _ _
    subst ee
    exact qH_openUnits_x58 hk hP
theorem LH_openUnits {σ σ' : Mem} {x1 : Int32} {x2 : Int32} {r : Int32} (hk : kH_openUnits σ x1 x2 = some (r, σ')) : M l D dA H0 yX1_openUnits YH_openUnits [vR (some (2, 0)), vI x1, vI x2] (hp σ) (fun x h' => x = some (vI r) ∧ h' = hp σ') :=
  m_of (j := 3) (by decide) rfl (fun hh => by cases hh) ⟨fun _ _ => trivial, rfl⟩ (le_b rfl) (qH_openUnits hk ⟨rfl, rfl⟩)
theorem qH_roomCount_s4 {σ : Mem} {x1 : Int32} {x2 : Int32} {out : (Int32 × Int32 × Mem) ⊕ (Int32 × Mem)} (hk : kH_roomCount_s4 (x1, x2, σ) = some out) (hc : ∀ (z1 : Int32) (z2 : Int32) (ς : Mem), out = .inl (z1, z2, ς) → ∀ (_ : Unit), J l D dA H0 YH_roomCount h0 Po 0 0 (hp ς) 4 [some (vR (some (2, 0))), some (vI z1), some (vI z2)] []) (hx0 : ∀ (z1 : Int32) (ς : Mem), out = .inr (z1, ς) → ∀ (o0 o2 : Option AV), J l D dA H0 YH_roomCount h0 Po 0 0 (hp ς) 33 [o0, some (vI z1), o2] []) : J l D dA H0 YH_roomCount h0 Po 0 0 (hp σ) 4 [some (vR (some (2, 0))), some (vI x1), some (vI x2)] [] := by
  unfold kH_roomCount_s4 at hk
  refine j_iload_n (pc' := 5) rfl rfl dX1_roomCount_4 ?_
  refine j_bipush (pc' := 7) (v := 16) rfl rfl dX1_roomCount_5 ?_
  refine j_ic_ge (pc' := 10) (tg := 33) rfl rfl dX1_roomCount_7 (fun c3 => ?_) (fun c3 => ?_)
  · have hk := (if_pos c3).symm.trans hk
    obtain rfl := Option.some.inj hk
    exact hx0 _ _ rfl _ _
  · have hk := (if_neg c3).symm.trans hk
    refine j_iload_n (pc' := 11) rfl rfl dX1_roomCount_10 ?_
    refine j_aload_n (pc' := 12) rfl rfl dX1_roomCount_11 ?_
    refine j_getf (pc' := 15) fg_RX1_11 (hp_e rfl) rfl rfl dX1_roomCount_12 ?_
    refine j_iload_n (pc' := 16) rfl rfl dX1_roomCount_15 ?_
    obtain ⟨g1, hk⟩ := of_ite hk
    refine j_aald (pc' := 17) ⟨le_b rfl, lt_b rfl⟩ (hp_e rfl) (inR_in g1) rfl dX1_roomCount_16 ?_
    rcases of_elim hk with ⟨hr, hk⟩ | ⟨j2, hr, hk⟩
    · refine j_top (v' := vR none) (congrArg (fun o => vR (Option.map (Prod.mk 20) o)) hr) ?_
      refine j_ifnull (pc' := 20) (tg := 24) rfl rfl dX1_roomCount_17 (fun _ => ?_) (fun _ hh => by cases hh)
      refine j_iconst (pc' := 25) (v := 0) rfl rfl dX1_roomCount_24 ?_
      refine j_iadd (pc' := 26) rfl dX1_roomCount_25 ?_
      refine j_istore_n (pc' := 27) (lt_b rfl) rfl rfl dX1_roomCount_26 ?_
      refine j_iinc (pc' := 30) (v := x2 + 1) rfl rfl (lt_b rfl) rfl rfl dX1_roomCount_27 ?_
      refine j_goto (tg := 4) rfl dX1_roomCount_30 ?_
      obtain rfl := Option.some.inj hk
      exact hc _ _ _ rfl ()
    · refine j_top (v' := vR (some (20, j2))) (congrArg (fun o => vR (Option.map (Prod.mk 20) o)) hr) ?_
      refine j_ifnull (pc' := 20) (tg := 24) rfl rfl dX1_roomCount_17 (fun hh => by cases hh) (fun _ _ => ?_)
      refine j_iconst (pc' := 21) (v := 1) rfl rfl dX1_roomCount_20 ?_
      refine j_goto (tg := 25) rfl dX1_roomCount_21 ?_
      refine j_iadd (pc' := 26) rfl dX1_roomCount_25 ?_
      refine j_istore_n (pc' := 27) (lt_b rfl) rfl rfl dX1_roomCount_26 ?_
      refine j_iinc (pc' := 30) (v := x2 + 1) rfl rfl (lt_b rfl) rfl rfl dX1_roomCount_27 ?_
      refine j_goto (tg := 4) rfl dX1_roomCount_30 ?_
      obtain rfl := Option.some.inj hk
      exact hc _ _ _ rfl ()
theorem lH_roomCount_s4 : ∀ (n : Nat) (x1 : Int32) (x2 : Int32) (σ : Mem) (e : (Int32 × Mem)), loopF n (kH_roomCount_s4) (x1, x2, σ) = some e → (∀ (z1 : Int32) (ς : Mem), e = (z1, ς) → ∀ (o0 o2 : Option AV), J l D dA H0 YH_roomCount h0 Po 0 0 (hp ς) 33 [o0, some (vI z1), o2] []) → ∀ (_ : Unit), J l D dA H0 YH_roomCount h0 Po 0 0 (hp σ) 4 [some (vR (some (2, 0))), some (vI x1), some (vI x2)] []
  | 0, x1, x2, σ, e, he => by cases he
  | n + 1, x1, x2, σ, e, he => by
    intro hx0 u
    rcases loopF_succ he with ⟨s', h1, h2⟩ | h1
    · refine qH_roomCount_s4 h1 ?_ ?_
      · intro z1 z2 ς ee
        cases ee
        exact lH_roomCount_s4 n z1 z2 ς e h2 hx0
      · intro z1 ς ee
        cases ee
    · refine qH_roomCount_s4 h1 ?_ ?_
      · intro z1 z2 ς ee
        cases ee
      · intro z1 ς ee
        exact hx0 z1 ς (Sum.inr.inj ee)
theorem qH_roomCount_x33 {σ : Mem} {x1 : Int32} {o0 : Option AV} {o2 : Option AV} {res : Int32 × Mem} (hk : kH_roomCount_x33 σ x1 = some res) (hP : Po (some (vI res.1)) (hp res.2)) : J l D dA H0 YH_roomCount h0 Po 0 0 (hp σ) 33 [o0, some (vI x1), o2] [] := by
  unfold kH_roomCount_x33 at hk
  refine j_iload_n (pc' := 34) rfl rfl dX1_roomCount_33 ?_
  obtain rfl := Option.some.inj hk
  exact j_iret rfl ⟨rfl, rfl⟩ dX1_roomCount_34 hP
theorem qH_roomCount {σ : Mem} {o1 : Option AV} {o2 : Option AV} {res : Int32 × Mem} (hk : kH_roomCount σ = some res) (hP : Po (some (vI res.1)) (hp res.2)) : J l D dA H0 YH_roomCount h0 Po 0 0 (hp σ) 0 [some (vR (some (2, 0))), o1, o2] [] := by
  unfold kH_roomCount at hk
  refine j_iconst (pc' := 1) (v := 0) rfl rfl dX1_roomCount_0 ?_
  refine j_istore_n (pc' := 2) (lt_b rfl) rfl rfl dX1_roomCount_1 ?_
  refine j_iconst (pc' := 3) (v := 0) rfl rfl dX1_roomCount_2 ?_
  refine j_istore_n (pc' := 4) (lt_b rfl) rfl rfl dX1_roomCount_3 ?_
  obtain ⟨e, he, hk⟩ := of_bind hk
  refine lH_roomCount_s4 FU _ _ _ e he ?_ ()
  · intro z1 ς ee _ _
    subst ee
    exact qH_roomCount_x33 hk hP
theorem LH_roomCount {σ σ' : Mem} {r : Int32} (hk : kH_roomCount σ = some (r, σ')) : M l D dA H0 yX1_roomCount YH_roomCount [vR (some (2, 0))] (hp σ) (fun x h' => x = some (vI r) ∧ h' = hp σ') :=
  m_of (j := 2) (by decide) rfl (fun hh => by cases hh) ⟨fun _ _ => trivial, rfl⟩ (le_b rfl) (qH_roomCount hk ⟨rfl, rfl⟩)
theorem qH_storeCount_s4 {σ : Mem} {x1 : Int32} {x2 : Int32} {out : (Int32 × Int32 × Mem) ⊕ (Int32 × Mem)} (hk : kH_storeCount_s4 (x1, x2, σ) = some out) (hc : ∀ (z1 : Int32) (z2 : Int32) (ς : Mem), out = .inl (z1, z2, ς) → ∀ (_ : Unit), J l D dA H0 YH_storeCount h0 Po 0 0 (hp ς) 4 [some (vR (some (2, 0))), some (vI z1), some (vI z2)] []) (hx0 : ∀ (z1 : Int32) (ς : Mem), out = .inr (z1, ς) → ∀ (o0 o2 : Option AV), J l D dA H0 YH_storeCount h0 Po 0 0 (hp ς) 33 [o0, some (vI z1), o2] []) : J l D dA H0 YH_storeCount h0 Po 0 0 (hp σ) 4 [some (vR (some (2, 0))), some (vI x1), some (vI x2)] [] := by
  unfold kH_storeCount_s4 at hk
  refine j_iload_n (pc' := 5) rfl rfl dX1_storeCount_4 ?_
  refine j_bipush (pc' := 7) (v := 16) rfl rfl dX1_storeCount_5 ?_
  refine j_ic_ge (pc' := 10) (tg := 33) rfl rfl dX1_storeCount_7 (fun c3 => ?_) (fun c3 => ?_)
  · have hk := (if_pos c3).symm.trans hk
    obtain rfl := Option.some.inj hk
    exact hx0 _ _ rfl _ _
  · have hk := (if_neg c3).symm.trans hk
    refine j_iload_n (pc' := 11) rfl rfl dX1_storeCount_10 ?_
    refine j_aload_n (pc' := 12) rfl rfl dX1_storeCount_11 ?_
    refine j_getf (pc' := 15) fg_RX1_17 (hp_e rfl) rfl rfl dX1_storeCount_12 ?_
    refine j_iload_n (pc' := 16) rfl rfl dX1_storeCount_15 ?_
    obtain ⟨g1, hk⟩ := of_ite hk
    refine j_bald (pc' := 17) (hp_e rfl) (inR_in g1) rfl dX1_storeCount_16 ?_
    refine j_if_eq (pc' := 20) (tg := 24) rfl rfl dX1_storeCount_17 (fun c2 => ?_) (fun c2 => ?_)
    · have hk := (if_pos c2).symm.trans hk
      refine j_iconst (pc' := 25) (v := 0) rfl rfl dX1_storeCount_24 ?_
      refine j_iadd (pc' := 26) rfl dX1_storeCount_25 ?_
      refine j_istore_n (pc' := 27) (lt_b rfl) rfl rfl dX1_storeCount_26 ?_
      refine j_iinc (pc' := 30) (v := x2 + 1) rfl rfl (lt_b rfl) rfl rfl dX1_storeCount_27 ?_
      refine j_goto (tg := 4) rfl dX1_storeCount_30 ?_
      obtain rfl := Option.some.inj hk
      exact hc _ _ _ rfl ()
    · have hk := (if_neg c2).symm.trans hk
      refine j_iconst (pc' := 21) (v := 1) rfl rfl dX1_storeCount_20 ?_
      refine j_goto (tg := 25) rfl dX1_storeCount_21 ?_
      refine j_iadd (pc' := 26) rfl dX1_storeCount_25 ?_
      refine j_istore_n (pc' := 27) (lt_b rfl) rfl rfl dX1_storeCount_26 ?_
      refine j_iinc (pc' := 30) (v := x2 + 1) rfl rfl (lt_b rfl) rfl rfl dX1_storeCount_27 ?_
      refine j_goto (tg := 4) rfl dX1_storeCount_30 ?_
      obtain rfl := Option.some.inj hk
      exact hc _ _ _ rfl ()
theorem lH_storeCount_s4 : ∀ (n : Nat) (x1 : Int32) (x2 : Int32) (σ : Mem) (e : (Int32 × Mem)), loopF n (kH_storeCount_s4) (x1, x2, σ) = some e → (∀ (z1 : Int32) (ς : Mem), e = (z1, ς) → ∀ (o0 o2 : Option AV), J l D dA H0 YH_storeCount h0 Po 0 0 (hp ς) 33 [o0, some (vI z1), o2] []) → ∀ (_ : Unit), J l D dA H0 YH_storeCount h0 Po 0 0 (hp σ) 4 [some (vR (some (2, 0))), some (vI x1), some (vI x2)] []
  | 0, x1, x2, σ, e, he => by cases he
  | n + 1, x1, x2, σ, e, he => by
    intro hx0 u
    rcases loopF_succ he with ⟨s', h1, h2⟩ | h1
    · refine qH_storeCount_s4 h1 ?_ ?_
      · intro z1 z2 ς ee
        cases ee
        exact lH_storeCount_s4 n z1 z2 ς e h2 hx0
      · intro z1 ς ee
        cases ee
    · refine qH_storeCount_s4 h1 ?_ ?_
      · intro z1 z2 ς ee
        cases ee
      · intro z1 ς ee
        exact hx0 z1 ς (Sum.inr.inj ee)
theorem qH_storeCount_x33 {σ : Mem} {x1 : Int32} {o0 : Option AV} {o2 : Option AV} {res : Int32 × Mem} (hk : kH_storeCount_x33 σ x1 = some res) (hP : Po (some (vI res.1)) (hp res.2)) : J l D dA H0 YH_storeCount h0 Po 0 0 (hp σ) 33 [o0, some (vI x1), o2] [] := by
  unfold kH_storeCount_x33 at hk
  refine j_iload_n (pc' := 34) rfl rfl dX1_storeCount_33 ?_
  obtain rfl := Option.some.inj hk
  exact j_iret rfl ⟨rfl, rfl⟩ dX1_storeCount_34 hP
theorem qH_storeCount {σ : Mem} {o1 : Option AV} {o2 : Option AV} {res : Int32 × Mem} (hk : kH_storeCount σ = some res) (hP : Po (some (vI res.1)) (hp res.2)) : J l D dA H0 YH_storeCount h0 Po 0 0 (hp σ) 0 [some (vR (some (2, 0))), o1, o2] [] := by
  unfold kH_storeCount at hk
  refine j_iconst (pc' := 1) (v := 0) rfl rfl dX1_storeCount_0 ?_
  refine j_istore_n (pc' := 2) (lt_b rfl) rfl rfl dX1_storeCount_1 ?_
  refine j_iconst (pc' := 3) (v := 0) rfl rfl dX1_storeCount_2 ?_
  refine j_istore_n (pc' := 4) (lt_b rfl) rfl rfl dX1_storeCount_3 ?_
  obtain ⟨e, he, hk⟩ := of_bind hk
  refine lH_storeCount_s4 FU _ _ _ e he ?_ ()
  · intro z1 ς ee _ _
    subst ee
    exact qH_storeCount_x33 hk hP
theorem LH_storeCount {σ σ' : Mem} {r : Int32} (hk : kH_storeCount σ = some (r, σ')) : M l D dA H0 yX1_storeCount YH_storeCount [vR (some (2, 0))] (hp σ) (fun x h' => x = some (vI r) ∧ h' = hp σ') :=
  m_of (j := 2) (by decide) rfl (fun hh => by cases hh) ⟨fun _ _ => trivial, rfl⟩ (le_b rfl) (qH_storeCount hk ⟨rfl, rfl⟩)
theorem qH_doorCount_s4 {σ : Mem} {x1 : Int32} {x2 : Int32} {o3 : Option AV} {out : (Int32 × Int32 × Mem) ⊕ (Int32 × Mem)} (hk : kH_doorCount_s4 (x1, x2, σ) = some out) (hc : ∀ (z1 : Int32) (z2 : Int32) (ς : Mem), out = .inl (z1, z2, ς) → ∀ (o3 : Option AV), J l D dA H0 YH_doorCount h0 Po 0 0 (hp ς) 4 [some (vR (some (2, 0))), some (vI z1), some (vI z2), o3] []) (hx0 : ∀ (z1 : Int32) (ς : Mem), out = .inr (z1, ς) → ∀ (o0 o2 o3 : Option AV), J l D dA H0 YH_doorCount h0 Po 0 0 (hp ς) 43 [o0, some (vI z1), o2, o3] []) : J l D dA H0 YH_doorCount h0 Po 0 0 (hp σ) 4 [some (vR (some (2, 0))), some (vI x1), some (vI x2), o3] [] := by
  unfold kH_doorCount_s4 at hk
  refine j_iload_n (pc' := 5) rfl rfl dX1_doorCount_4 ?_
  refine j_bipush (pc' := 7) (v := 16) rfl rfl dX1_doorCount_5 ?_
  refine j_ic_ge (pc' := 10) (tg := 43) rfl rfl dX1_doorCount_7 (fun c4 => ?_) (fun c4 => ?_)
  · have hk := (if_pos c4).symm.trans hk
    obtain rfl := Option.some.inj hk
    exact hx0 _ _ rfl _ _ _
  · have hk := (if_neg c4).symm.trans hk
    refine j_aload_n (pc' := 11) rfl rfl dX1_doorCount_10 ?_
    refine j_getf (pc' := 14) fg_RX1_11 (hp_e rfl) rfl rfl dX1_doorCount_11 ?_
    refine j_iload_n (pc' := 15) rfl rfl dX1_doorCount_14 ?_
    obtain ⟨g1, hk⟩ := of_ite hk
    refine j_aald (pc' := 16) ⟨le_b rfl, lt_b rfl⟩ (hp_e rfl) (inR_in g1) rfl dX1_doorCount_15 ?_
    rcases of_elim hk with ⟨hr, hk⟩ | ⟨j2, hr, hk⟩
    · refine j_top (v' := vR none) (congrArg (fun o => vR (Option.map (Prod.mk 20) o)) hr) ?_
      refine j_astore_n (pc' := 17) (lt_b rfl) rfl rfl dX1_doorCount_16 ?_
      refine j_iload_n (pc' := 18) rfl rfl dX1_doorCount_17 ?_
      refine j_aload_n (pc' := 19) rfl rfl dX1_doorCount_18 ?_
      refine j_ifnull (pc' := 22) (tg := 34) rfl rfl dX1_doorCount_19 (fun _ => ?_) (fun _ hh => by cases hh)
      refine j_iconst (pc' := 35) (v := 0) rfl rfl dX1_doorCount_34 ?_
      refine j_iadd (pc' := 36) rfl dX1_doorCount_35 ?_
      refine j_istore_n (pc' := 37) (lt_b rfl) rfl rfl dX1_doorCount_36 ?_
      refine j_iinc (pc' := 40) (v := x2 + 1) rfl rfl (lt_b rfl) rfl rfl dX1_doorCount_37 ?_
      refine j_goto (tg := 4) rfl dX1_doorCount_40 ?_
      obtain rfl := Option.some.inj hk
      exact hc _ _ _ rfl _
    · refine j_top (v' := vR (some (20, j2))) (congrArg (fun o => vR (Option.map (Prod.mk 20) o)) hr) ?_
      refine j_astore_n (pc' := 17) (lt_b rfl) rfl rfl dX1_doorCount_16 ?_
      refine j_iload_n (pc' := 18) rfl rfl dX1_doorCount_17 ?_
      refine j_aload_n (pc' := 19) rfl rfl dX1_doorCount_18 ?_
      refine j_ifnull (pc' := 22) (tg := 34) rfl rfl dX1_doorCount_19 (fun hh => by cases hh) (fun _ _ => ?_)
      refine j_aload_n (pc' := 23) rfl rfl dX1_doorCount_22 ?_
      refine j_getf (pc' := 26) fg_RX1_36 (hp_e rfl) rfl rfl dX1_doorCount_23 ?_
      refine j_iload_n (pc' := 27) rfl rfl dX1_doorCount_26 ?_
      refine j_ic_le (pc' := 30) (tg := 34) rfl rfl dX1_doorCount_27 (fun c3 => ?_) (fun c3 => ?_)
      · have hk := (if_pos c3).symm.trans hk
        refine j_iconst (pc' := 35) (v := 0) rfl rfl dX1_doorCount_34 ?_
        refine j_iadd (pc' := 36) rfl dX1_doorCount_35 ?_
        refine j_istore_n (pc' := 37) (lt_b rfl) rfl rfl dX1_doorCount_36 ?_
        refine j_iinc (pc' := 40) (v := x2 + 1) rfl rfl (lt_b rfl) rfl rfl dX1_doorCount_37 ?_
        refine j_goto (tg := 4) rfl dX1_doorCount_40 ?_
        obtain rfl := Option.some.inj hk
        exact hc _ _ _ rfl _
      · have hk := (if_neg c3).symm.trans hk
        refine j_iconst (pc' := 31) (v := 1) rfl rfl dX1_doorCount_30 ?_
        refine j_goto (tg := 35) rfl dX1_doorCount_31 ?_
        refine j_iadd (pc' := 36) rfl dX1_doorCount_35 ?_
        refine j_istore_n (pc' := 37) (lt_b rfl) rfl rfl dX1_doorCount_36 ?_
        refine j_iinc (pc' := 40) (v := x2 + 1) rfl rfl (lt_b rfl) rfl rfl dX1_doorCount_37 ?_
        refine j_goto (tg := 4) rfl dX1_doorCount_40 ?_
        obtain rfl := Option.some.inj hk
        exact hc _ _ _ rfl _
theorem lH_doorCount_s4 : ∀ (n : Nat) (x1 : Int32) (x2 : Int32) (σ : Mem) (e : (Int32 × Mem)), loopF n (kH_doorCount_s4) (x1, x2, σ) = some e → (∀ (z1 : Int32) (ς : Mem), e = (z1, ς) → ∀ (o0 o2 o3 : Option AV), J l D dA H0 YH_doorCount h0 Po 0 0 (hp ς) 43 [o0, some (vI z1), o2, o3] []) → ∀ (o3 : Option AV), J l D dA H0 YH_doorCount h0 Po 0 0 (hp σ) 4 [some (vR (some (2, 0))), some (vI x1), some (vI x2), o3] []
  | 0, x1, x2, σ, e, he => by cases he
  | n + 1, x1, x2, σ, e, he => by
    intro hx0 o3
    rcases loopF_succ he with ⟨s', h1, h2⟩ | h1
    · refine qH_doorCount_s4 h1 ?_ ?_
      · intro z1 z2 ς ee
        cases ee
        exact lH_doorCount_s4 n z1 z2 ς e h2 hx0
      · intro z1 ς ee
        cases ee
    · refine qH_doorCount_s4 h1 ?_ ?_
      · intro z1 z2 ς ee
        cases ee
      · intro z1 ς ee
        exact hx0 z1 ς (Sum.inr.inj ee)
theorem qH_doorCount_x43 {σ : Mem} {x1 : Int32} {o0 : Option AV} {o2 : Option AV} {o3 : Option AV} {res : Int32 × Mem} (hk : kH_doorCount_x43 σ x1 = some res) (hP : Po (some (vI res.1)) (hp res.2)) : J l D dA H0 YH_doorCount h0 Po 0 0 (hp σ) 43 [o0, some (vI x1), o2, o3] [] := by
  unfold kH_doorCount_x43 at hk
  refine j_iload_n (pc' := 44) rfl rfl dX1_doorCount_43 ?_
  obtain rfl := Option.some.inj hk
  exact j_iret rfl ⟨rfl, rfl⟩ dX1_doorCount_44 hP
theorem qH_doorCount {σ : Mem} {o1 : Option AV} {o2 : Option AV} {o3 : Option AV} {res : Int32 × Mem} (hk : kH_doorCount σ = some res) (hP : Po (some (vI res.1)) (hp res.2)) : J l D dA H0 YH_doorCount h0 Po 0 0 (hp σ) 0 [some (vR (some (2, 0))), o1, o2, o3] [] := by
  unfold kH_doorCount at hk
  refine j_iconst (pc' := 1) (v := 0) rfl rfl dX1_doorCount_0 ?_
  refine j_istore_n (pc' := 2) (lt_b rfl) rfl rfl dX1_doorCount_1 ?_
  refine j_iconst (pc' := 3) (v := 0) rfl rfl dX1_doorCount_2 ?_
  refine j_istore_n (pc' := 4) (lt_b rfl) rfl rfl dX1_doorCount_3 ?_
  obtain ⟨e, he, hk⟩ := of_bind hk
  refine lH_doorCount_s4 FU _ _ _ e he ?_ _
  · intro z1 ς ee _ _ _
    subst ee
    exact qH_doorCount_x43 hk hP
theorem LH_doorCount {σ σ' : Mem} {r : Int32} (hk : kH_doorCount σ = some (r, σ')) : M l D dA H0 yX1_doorCount YH_doorCount [vR (some (2, 0))] (hp σ) (fun x h' => x = some (vI r) ∧ h' = hp σ') :=
  m_of (j := 3) (by decide) rfl (fun hh => by cases hh) ⟨fun _ _ => trivial, rfl⟩ (le_b rfl) (qH_doorCount hk ⟨rfl, rfl⟩)
theorem qQ_setSpot {σ : Mem} {x0 : Nat} {x1 : Int32} {x2 : Int32} {res : Unit × Mem} (hk : kQ_setSpot σ x0 x1 x2 = some res) (hP : Po none (hp res.2)) : J l D dA H0 YQ_setSpot h0 Po 0 0 (hp σ) 0 [some (vR (some (21, x0))), some (vI x1), some (vI x2)] [] := by
  unfold kQ_setSpot at hk
  refine j_iload_n (pc' := 1) rfl rfl dX3_setSpot_0 ?_
  obtain ⟨⟨r1, σ2⟩, hx, hk⟩ := of_bind hk
  refine j_cs1 (pc' := 4) (LG_isNight hx) cs_RX3_44 ⟨le_b rfl, le_b rfl⟩ rfl (le_b rfl) ⟨rfl, rfl⟩ ⟨le_b rfl, le_b rfl⟩ rfl rfl dX3_setSpot_1 ?_
  refine j_if_eq (pc' := 7) (tg := 14) rfl rfl dX3_setSpot_4 (fun c4 => ?_) (fun c4 => ?_)
  · have hk := (if_pos c4).symm.trans hk
    obtain rfl := Option.some.inj hk
    exact j_ret rfl ⟨rfl, rfl⟩ dX3_setSpot_14 hP
  · have hk := (if_neg c4).symm.trans hk
    refine j_aload_n (pc' := 8) rfl rfl dX3_setSpot_7 ?_
    refine j_getf (pc' := 11) fg_RX3_9 (hp_e rfl) rfl rfl dX3_setSpot_8 ?_
    refine j_iload_n (pc' := 12) rfl rfl dX3_setSpot_11 ?_
    refine j_iload_n (pc' := 13) rfl rfl dX3_setSpot_12 ?_
    obtain ⟨g3, hk⟩ := of_ite hk
    refine j_si (pc' := 14) (fun _ _ _ => rfl) (inR_in g3) rfl dX3_setSpot_13 ?_
    obtain rfl := Option.some.inj hk
    exact j_ret rfl ⟨rfl, rfl⟩ dX3_setSpot_14 hP
theorem LQ_setSpot {σ σ' : Mem} {x0 : Nat} {x1 : Int32} {x2 : Int32} {r : Unit} (hk : kQ_setSpot σ x0 x1 x2 = some (r, σ')) : M l D dA H0 yX3_setSpot YQ_setSpot [vR (some (21, x0)), vI x1, vI x2] (hp σ) (fun x h' => x = none ∧ h' = hp σ') :=
  m_of (j := 0) (by decide) rfl (fun hh => by cases hh) ⟨fun _ _ => trivial, rfl⟩ (le_b rfl) (qQ_setSpot hk ⟨rfl, rfl⟩)
theorem qP_gather_s7 {σ : Mem} {x1 : Int32} {x2 : Int32} {o3 : Option AV} {out : (Int32 × Mem) ⊕ (Mem)} (hk : kP_gather_s7 x1 (x2, σ) = some out) (hc : ∀ (z2 : Int32) (ς : Mem), out = .inl (z2, ς) → ∀ (o3 : Option AV), J l D dA H0 YP_gather h0 Po 0 0 (hp ς) 7 [some (vR (some (11, 0))), some (vI x1), some (vI z2), o3] []) (hx0 : ∀ (ς : Mem), out = .inr ς → ∀ (o0 o1 o2 o3 : Option AV), J l D dA H0 YP_gather h0 Po 0 0 (hp ς) 100 [o0, o1, o2, o3] []) : J l D dA H0 YP_gather h0 Po 0 0 (hp σ) 7 [some (vR (some (11, 0))), some (vI x1), some (vI x2), o3] [] := by
  unfold kP_gather_s7 at hk
  refine j_iload_n (pc' := 8) rfl rfl dX2_gather_7 ?_
  refine j_aload_n (pc' := 9) rfl rfl dX2_gather_8 ?_
  refine j_getf (pc' := 12) fg_RX2_25 (hp_e rfl) rfl rfl dX2_gather_9 ?_
  refine j_getf (pc' := 15) fg_RX2_71 (hp_e rfl) rfl rfl dX2_gather_12 ?_
  refine j_ic_ge (pc' := 18) (tg := 100) rfl rfl dX2_gather_15 (fun c15 => ?_) (fun c15 => ?_)
  · have hk := (if_pos c15).symm.trans hk
    obtain rfl := Option.some.inj hk
    exact hx0 _ rfl _ _ _ _
  · have hk := (if_neg c15).symm.trans hk
    refine j_aload_n (pc' := 19) rfl rfl dX2_gather_18 ?_
    refine j_getf (pc' := 22) fg_RX2_25 (hp_e rfl) rfl rfl dX2_gather_19 ?_
    refine j_iload_n (pc' := 23) rfl rfl dX2_gather_22 ?_
    obtain ⟨⟨r1, σ2⟩, hx, hk⟩ := of_bind hk
    refine j_cv1 (pc' := 26) (LB_at hx) cv_RX2_76 ⟨le_b rfl, le_b rfl⟩ (hp_e rfl) rfl rfl (le_b rfl) ⟨rfl, rfl⟩ ⟨le_b rfl, le_b rfl⟩ rfl rfl dX2_gather_23 ?_
    refine j_astore_n (pc' := 27) (lt_b rfl) rfl rfl dX2_gather_26 ?_
    refine j_aload_n (pc' := 28) rfl rfl dX2_gather_27 ?_
    rcases of_elim hk with ⟨hr, hk⟩ | ⟨j3, hr, hk⟩
    · subst hr
      refine j_ifnonnull (pc' := 31) (tg := 34) rfl rfl dX2_gather_28 (fun _ hh => by cases hh) (fun _ => ?_)
      refine j_goto (tg := 94) rfl dX2_gather_31 ?_
      refine j_iinc (pc' := 97) (v := x2 + 1) rfl rfl (lt_b rfl) rfl rfl dX2_gather_94 ?_
      refine j_goto (tg := 7) rfl dX2_gather_97 ?_
      obtain rfl := Option.some.inj hk
      exact hc _ _ rfl _
    · subst hr
      refine j_ifnonnull (pc' := 31) (tg := 34) rfl rfl dX2_gather_28 (fun _ _ => ?_) (fun hh => by cases hh)
      refine j_aload_n (pc' := 35) rfl rfl dX2_gather_34 ?_
      refine j_iload_n (pc' := 36) rfl rfl dX2_gather_35 ?_
      refine j_iconst (pc' := 37) (v := (-1)) rfl rfl dX2_gather_36 ?_
      obtain ⟨⟨_, σ5⟩, hx, hk⟩ := of_bind hk
      refine j_cv0 (pc' := 40) (LQ_setSpot hx) cv_RX2_53 ⟨le_b rfl, le_b rfl⟩ (hp_e rfl) rfl rfl (le_b rfl) ⟨rfl, rfl⟩ ⟨le_b rfl, le_b rfl⟩ rfl rfl dX2_gather_37 ?_
      refine j_aload_n (pc' := 41) rfl rfl dX2_gather_40 ?_
      obtain ⟨⟨r6, σ7⟩, hx, hk⟩ := of_bind hk
      refine j_cv1 (pc' := 44) (LQ_stands hx) cv_RX2_80 ⟨le_b rfl, le_b rfl⟩ (hp_e rfl) rfl rfl (le_b rfl) ⟨rfl, rfl⟩ ⟨le_b rfl, le_b rfl⟩ rfl rfl dX2_gather_41 ?_
      refine j_if_eq (pc' := 47) (tg := 94) rfl rfl dX2_gather_44 (fun c14 => ?_) (fun c14 => ?_)
      · have hk := (if_pos c14).symm.trans hk
        refine j_iinc (pc' := 97) (v := x2 + 1) rfl rfl (lt_b rfl) rfl rfl dX2_gather_94 ?_
        refine j_goto (tg := 7) rfl dX2_gather_97 ?_
        obtain rfl := Option.some.inj hk
        exact hc _ _ rfl _
      · have hk := (if_neg c14).symm.trans hk
        refine j_aload_n (pc' := 48) rfl rfl dX2_gather_47 ?_
        refine j_iload_n (pc' := 49) rfl rfl dX2_gather_48 ?_
        obtain ⟨⟨r8, σ9⟩, hx, hk⟩ := of_bind hk
        refine j_cv1 (pc' := 52) (LQ_covers hx) cv_RX2_84 ⟨le_b rfl, le_b rfl⟩ (hp_e rfl) rfl rfl (le_b rfl) ⟨rfl, rfl⟩ ⟨le_b rfl, le_b rfl⟩ rfl rfl dX2_gather_49 ?_
        refine j_if_eq (pc' := 55) (tg := 94) rfl rfl dX2_gather_52 (fun c13 => ?_) (fun c13 => ?_)
        · have hk := (if_pos c13).symm.trans hk
          refine j_iinc (pc' := 97) (v := x2 + 1) rfl rfl (lt_b rfl) rfl rfl dX2_gather_94 ?_
          refine j_goto (tg := 7) rfl dX2_gather_97 ?_
          obtain rfl := Option.some.inj hk
          exact hc _ _ rfl _
        · have hk := (if_neg c13).symm.trans hk
          refine j_aload_n (pc' := 56) rfl rfl dX2_gather_55 ?_
          refine j_getf (pc' := 59) fg_RX2_37 (hp_e rfl) rfl rfl dX2_gather_56 ?_
          refine j_bipush (pc' := 61) (v := 40) rfl rfl dX2_gather_59 ?_
          refine j_ic_ge (pc' := 64) (tg := 94) rfl rfl dX2_gather_61 (fun c12 => ?_) (fun c12 => ?_)
          · have hk := (if_pos c12).symm.trans hk
            refine j_iinc (pc' := 97) (v := x2 + 1) rfl rfl (lt_b rfl) rfl rfl dX2_gather_94 ?_
            refine j_goto (tg := 7) rfl dX2_gather_97 ?_
            obtain rfl := Option.some.inj hk
            exact hc _ _ rfl _
          · have hk := (if_neg c12).symm.trans hk
            refine j_aload_n (pc' := 65) rfl rfl dX2_gather_64 ?_
            refine j_getf (pc' := 68) fg_RX2_11 (hp_e rfl) rfl rfl dX2_gather_65 ?_
            refine j_aload_n (pc' := 69) rfl rfl dX2_gather_68 ?_
            refine j_getf (pc' := 72) fg_RX2_37 (hp_e rfl) rfl rfl dX2_gather_69 ?_
            refine j_aload_n (pc' := 73) rfl rfl dX2_gather_72 ?_
            obtain ⟨g10, hk⟩ := of_ite hk
            refine j_sr (pc' := 74) (le_b rfl) rfl (fun _ _ _ => rfl) rfl rfl (inR_in g10) rfl dX2_gather_73 ?_
            refine j_aload_n (pc' := 75) rfl rfl dX2_gather_74 ?_
            refine j_getf (pc' := 78) fg_RX2_17 (hp_e rfl) rfl rfl dX2_gather_75 ?_
            refine j_aload_n (pc' := 79) rfl rfl dX2_gather_78 ?_
            refine j_getf (pc' := 82) fg_RX2_37 (hp_e rfl) rfl rfl dX2_gather_79 ?_
            refine j_iconst (pc' := 83) (v := 0) rfl rfl dX2_gather_82 ?_
            obtain ⟨g11, hk⟩ := of_ite hk
            refine j_sz (pc' := 84) (fun _ _ _ => rfl) (inR_in g11) rfl dX2_gather_83 ?_
            refine j_aload_n (pc' := 85) rfl rfl dX2_gather_84 ?_
            refine j_dup (pc' := 86) rfl rfl dX2_gather_85 ?_
            refine j_getf (pc' := 89) fg_RX2_37 (hp_e rfl) rfl rfl dX2_gather_86 ?_
            refine j_iconst (pc' := 90) (v := 1) rfl rfl dX2_gather_89 ?_
            refine j_iadd (pc' := 91) rfl dX2_gather_90 ?_
            refine j_pi (pc' := 94) (ty := .int) fg_RX2_37 ttX2 rfl rfl ⟨rfl, rfl⟩ rfl (lt_b rfl) rfl rfl dX2_gather_91 ?_
            refine j_iinc (pc' := 97) (v := x2 + 1) rfl rfl (lt_b rfl) rfl rfl dX2_gather_94 ?_
            refine j_goto (tg := 7) rfl dX2_gather_97 ?_
            obtain rfl := Option.some.inj hk
            exact hc _ _ rfl _
theorem lP_gather_s7 {x1 : Int32} : ∀ (n : Nat) (x2 : Int32) (σ : Mem) (e : (Mem)), loopF n (kP_gather_s7 x1) (x2, σ) = some e → (∀ (ς : Mem), e = ς → ∀ (o0 o1 o2 o3 : Option AV), J l D dA H0 YP_gather h0 Po 0 0 (hp ς) 100 [o0, o1, o2, o3] []) → ∀ (o3 : Option AV), J l D dA H0 YP_gather h0 Po 0 0 (hp σ) 7 [some (vR (some (11, 0))), some (vI x1), some (vI x2), o3] []
  | 0, x2, σ, e, he => by cases he
  | n + 1, x2, σ, e, he => by
    intro hx0 o3
    rcases loopF_succ he with ⟨s', h1, h2⟩ | h1
    · refine qP_gather_s7 h1 ?_ ?_
      · intro z2 ς ee
        cases ee
        exact lP_gather_s7 n z2 ς e h2 hx0
      · intro ς ee
        cases ee
    · refine qP_gather_s7 h1 ?_ ?_
      · intro z2 ς ee
        cases ee
      · intro ς ee
        exact hx0 ς (Sum.inr.inj ee)
theorem qP_gather_x100 {σ : Mem} {o0 : Option AV} {o1 : Option AV} {o2 : Option AV} {o3 : Option AV} {res : Unit × Mem} (hk : kP_gather_x100 σ = some res) (hP : Po none (hp res.2)) : J l D dA H0 YP_gather h0 Po 0 0 (hp σ) 100 [o0, o1, o2, o3] [] := by
  unfold kP_gather_x100 at hk
  obtain rfl := Option.some.inj hk
  exact j_ret rfl ⟨rfl, rfl⟩ dX2_gather_100 hP
theorem qP_gather {σ : Mem} {x1 : Int32} {o2 : Option AV} {o3 : Option AV} {res : Unit × Mem} (hk : kP_gather σ x1 = some res) (hP : Po none (hp res.2)) : J l D dA H0 YP_gather h0 Po 0 0 (hp σ) 0 [some (vR (some (11, 0))), some (vI x1), o2, o3] [] := by
  unfold kP_gather at hk
  refine j_aload_n (pc' := 1) rfl rfl dX2_gather_0 ?_
  refine j_iconst (pc' := 2) (v := 0) rfl rfl dX2_gather_1 ?_
  refine j_pi (pc' := 5) (ty := .int) fg_RX2_37 ttX2 rfl rfl ⟨rfl, rfl⟩ rfl (lt_b rfl) rfl rfl dX2_gather_2 ?_
  refine j_iconst (pc' := 6) (v := 0) rfl rfl dX2_gather_5 ?_
  refine j_istore_n (pc' := 7) (lt_b rfl) rfl rfl dX2_gather_6 ?_
  obtain ⟨e, he, hk⟩ := of_bind hk
  refine lP_gather_s7 FU _ _ e he ?_ _
  · intro ς ee _ _ _ _
    subst ee
    exact qP_gather_x100 hk hP
theorem LP_gather {σ σ' : Mem} {x1 : Int32} {r : Unit} (hk : kP_gather σ x1 = some (r, σ')) : M l D dA H0 yX2_gather YP_gather [vR (some (11, 0)), vI x1] (hp σ) (fun x h' => x = none ∧ h' = hp σ') :=
  m_of (j := 2) (by decide) rfl (fun hh => by cases hh) ⟨fun _ _ => trivial, rfl⟩ (le_b rfl) (qP_gather hk ⟨rfl, rfl⟩)
theorem up_up {h : Hp} {q : Hd} {a b : AE} : up (up h q a) q b = up h q b := by
  funext r
  unfold up
  split <;> rfl
theorem up_same {h : Hp} {q : Hd} {a : AE} (hq : h q = some a) : up h q a = h := by
  funext r
  unfold up
  split
  · rename_i e; rw [e, hq]
  · rfl
theorem fillJ {h : Hp} {q : Hd} {n : Nat} {f : Nat → Int32} {v : Int32} (hn : n < 2 ^ 31) (hP : Po none (up h q (.inl (0, n, .inl (fun j => if j < n then v else f j))))) : ∀ (m i : Nat), i + m = n → J l D dA H0 YJ_fill h0 Po 0 0 (up h q (.inl (0, n, .inl (fun j => if j < i then v else f j)))) 5 [some (vR (some q)), some (vI v), some (vI (nI i)), some (vI (nI n))] []
  | 0, i, e => by
    have e : i = n := by omega
    subst e
    refine j_iload_n (pc' := 6) rfl rfl dJ7_fill_53178_5 ?_
    refine j_iload_n (pc' := 7) rfl rfl dJ7_fill_53178_6 ?_
    refine j_ic_ge (pc' := 10) (tg := 20) rfl rfl dJ7_fill_53178_7 (fun c1 => ?_) (fun c1 => absurd (nI_le (Nat.le_refl i) hn) c1)
    exact j_ret rfl ⟨rfl, rfl⟩ dJ7_fill_53178_20 hP
  | m + 1, i, e => by
    refine j_iload_n (pc' := 6) rfl rfl dJ7_fill_53178_5 ?_
    refine j_iload_n (pc' := 7) rfl rfl dJ7_fill_53178_6 ?_
    refine j_ic_ge (pc' := 10) (tg := 20) rfl rfl dJ7_fill_53178_7 (fun c1 => absurd c1 (nI_ge (by omega) hn)) (fun c1 => ?_)
    refine j_aload_n (pc' := 11) rfl rfl dJ7_fill_53178_10 ?_
    refine j_iload_n (pc' := 12) rfl rfl dJ7_fill_53178_11 ?_
    refine j_iload_n (pc' := 13) rfl rfl dJ7_fill_53178_12 ?_
    refine j_iast (pc' := 14) (N := n) (f := fun j => if j < i then v else f j) (fun e he => ?_) (vp_in_nI (by omega) hn) rfl dJ7_fill_53178_13 ?_
    · rw [up_self] at he; exact (Option.some.inj he).symm
    refine j_iinc (pc' := 17) (v := nI (i + 1)) rfl (nI_1 i) (lt_b rfl) rfl rfl dJ7_fill_53178_14 ?_
    refine j_goto (tg := 5) rfl dJ7_fill_53178_17 ?_
    have key := fillJ hn hP m (i + 1) (by omega)
    have e2 : upd (fun j => if j < i then v else f j) (nI i).toNatClampNeg v = fun j => if j < i + 1 then v else f j := by
      rw [nI_clamp (by omega)]
      funext j
      unfold upd
      by_cases h1 : j = i
      · subst h1; simp
      · by_cases h2 : j < i
        · simp [h1, h2, Nat.lt_succ_of_lt h2]
        · simp [h1, h2, show ¬ j < i + 1 by omega]
    rw [up_up, e2]
    exact key
theorem fillG {h : Hp} {q : Hd} {n : Nat} {f : Nat → Int32} {v : Int32} (hq : h q = some (.inl (0, n, .inl f))) (hn : n < 2 ^ 31) : M l D dA H0 yJ7_fill_53178 YJ_fill [vR (some q), vI v] h (fun x h' => x = none ∧ h' = up h q (.inl (0, n, .inl (fun j => if j < n then v else f j)))) := by
  refine m_of (j := 2) rfl rfl (fun hh => by cases hh) ⟨fun _ _ => trivial, rfl⟩ (le_b rfl) ?_
  refine j_iconst (pc' := 1) (v := 0) rfl rfl dJ7_fill_53178_0 ?_
  refine j_istore_n (pc' := 2) (lt_b rfl) rfl rfl dJ7_fill_53178_1 ?_
  refine j_aload_n (pc' := 3) rfl rfl dJ7_fill_53178_2 ?_
  refine j_alen (pc' := 4) (N := n) (f := f) (fun e he => ?_) rfl dJ7_fill_53178_3 ?_
  · rw [hq] at he; exact (Option.some.inj he).symm
  refine j_istore_n (pc' := 5) (lt_b rfl) rfl rfl dJ7_fill_53178_4 ?_
  have key := fillJ (l := l) (D := D) (dA := dA) (H0 := H0) (h0 := nx h) (h := h) (q := q) (f := f) (v := v) (Po := fun x h' => x = none ∧ h' = up h q (.inl (0, n, .inl (fun j => if j < n then v else f j)))) hn ⟨rfl, rfl⟩ n 0 (Nat.zero_add n)
  have e2 : up h q (.inl (0, n, .inl (fun j => if j < 0 then v else f j))) = h := up_same (by rw [hq]; simp)
  rw [e2] at key
  exact key
theorem hp_fill {σ : Mem} {t i n : Nat} {v : Int32} (hv : mV σ t i = true) (hb : ∀ a b r, hb' t i a b r = some (.inl (0, n, .inl a))) : up (hp σ) (t, i) (.inl (0, n, .inl (fun j => if j < n then v else mI σ t i j))) = hp (fillI σ t i n v) := by
  funext q
  obtain ⟨t', i'⟩ := q
  unfold up
  by_cases e : (t', i') = (t, i)
  · cases e
    rw [if_pos rfl]
    unfold hp
    rw [if_pos (show mV (fillI σ t i n v) t i = true from hv)]
    have : mI (fillI σ t i n v) t i = fun j => if j < n then v else mI σ t i j := by
      funext j
      simp [mI, fillI]
    show some _ = hb' t i (mI (fillI σ t i n v) t i) _ _
    rw [this, hb]
  · rw [if_neg e]
    unfold hp
    have h1 : mI (fillI σ t i n v) t' i' = mI σ t' i' := by
      funext j
      have : ¬ (t' = t ∧ i' = i ∧ j < n) := fun h => e (by rw [h.1, h.2.1])
      simp [mI, fillI, this]
    show (if mV σ t' i' = true then _ else none) = if mV (fillI σ t i n v) t' i' = true then _ else none
    rw [h1]
    rfl
theorem M.live {yn : MethodName} {Y : YY} {as : List AV} {σ : Mem} {t i : Nat} (hm : vR (some (t, i)) ∈ as) (kk : mV σ t i = true → M l D dA H0 yn Y as (hp σ) Po) : M l D dA H0 yn Y as (hp σ) Po := by
  intro ad0
  by_cases hv : mV σ t i = true
  · exact kk hv ad0
  · intro p e ha hc hk s m args below hf hfit hP
    exact absurd (hp_v (hP.2.2.1 _ hm)) hv
theorem LJ_fill {σ σ' : Mem} {t i n : Nat} {v : Int32} {r : Unit} (hb : ∀ a b r, hb' t i a b r = some (.inl (0, n, .inl a))) (hn : n < 2 ^ 31) (hk : kJ_fill σ t i n v = some (r, σ')) : M l D dA H0 yJ7_fill_53178 YJ_fill [vR (some (t, i)), vI v] (hp σ) (fun x h' => x = none ∧ h' = hp σ') := by
  cases hk
  refine M.live (t := t) (i := i) List.mem_cons_self fun hv => ?_
  have := fillG (l := l) (D := D) (dA := dA) (H0 := H0) (h := hp σ) (q := (t, i)) (n := n) (f := mI σ t i) (v := v) (by unfold hp; rw [if_pos hv]; exact hb _ _ _) hn
  rw [hp_fill hv hb] at this
  exact this
theorem ce_e {h : Hp} {q : Hd} {x : AE} (hx : h q = some x) : ∀ e, h q = some e → e = x := fun _ he => Option.some.inj (he.symm.trans hx)
theorem j_pc {y : YY} {k n : Nat} {pc pc' : Nat} {lo : List (Option AV)} {st : List AV} {h1 : Hp} {q : Hd} {ix c kf : Nat} {C : String} {T : u_T} {N : Nat} {fs : List AV} {v : AV} {ty : FieldType} (hf : FG y.2.2.1 ix c kf C T N) (hT : TT T N) (hty : parseFieldDescriptor (T kf).2.2.1 = some ty) (hfi : (T kf).2.2.2 = false ∨ ((T kf).2.2.2 = true ∧ y.2.2.2.2.2.1 = true ∧ (T kf).1 = y.2.2.1)) (hvt : ∀ ad, narrow ty (cv ad v) = cv ad v ∧ fits ty (cv ad v) = true) (hlen : kf < fs.length) (hn : pc + 3 = pc') (hd : decode y.1 pc = .ok (.putfield ix, 3)) (kk : J l D dA H0 y h0 Po k n (up h1 q (.inr (c, fs.set kf v))) pc' lo st) : J l D dA H0 y h0 Po k n (up h1 q (.inr (c, fs))) pc lo (v :: vR (some q) :: st) :=
  j_putf hf hT hty hfi hvt (ce_e up_self) hlen hn hd (by rw [up_up]; exact kk)
theorem hp_mk {σ σ' : Mem} {t i : Nat} {x : AE} (ho : ∀ t' i', (t', i') ≠ (t, i) → mI σ' t' i' = mI σ t' i' ∧ mL σ' t' i' = mL σ t' i' ∧ mR σ' t' i' = mR σ t' i' ∧ mV σ' t' i' = mV σ t' i') (hv : mV σ' t i = true) (hb : hb' t i (mI σ' t i) (mL σ' t i) (mR σ' t i) = some x) : up (hp σ) (t, i) x = hp σ' := by
  funext q
  obtain ⟨t', i'⟩ := q
  unfold up
  by_cases e : (t', i') = (t, i)
  · cases e
    rw [if_pos rfl]
    unfold hp
    rw [if_pos hv]
    exact hb.symm
  · rw [if_neg e]
    obtain ⟨h1, h2, h3, h4⟩ := ho t' i' e
    unfold hp
    rw [h1, h2, h3, h4]
theorem oI {σ : Mem} {t i k t' i' : Nat} {v : Int32} (e : (t', i') ≠ (t, i)) : mI (sI σ t i k v) t' i' = mI σ t' i' := by
  funext j
  have : ¬ (t' = t ∧ i' = i ∧ j = k) := fun h => e (by rw [h.1, h.2.1])
  simp [mI, sI, this]
theorem oL {σ : Mem} {t i k t' i' : Nat} {v : Int64} (e : (t', i') ≠ (t, i)) : mL (sL σ t i k v) t' i' = mL σ t' i' := by
  funext j
  have : ¬ (t' = t ∧ i' = i ∧ j = k) := fun h => e (by rw [h.1, h.2.1])
  simp [mL, sL, this]
theorem oV {σ : Mem} {t i t' i' : Nat} (e : (t', i') ≠ (t, i)) : mV (sV σ t i) t' i' = mV σ t' i' := by
  have : ¬ (t' = t ∧ i' = i) := fun h => e (by rw [h.1, h.2])
  simp [mV, sV, this]
theorem mI_sL {σ : Mem} {t i k : Nat} {v : Int64} : mI (sL σ t i k v) = mI σ := rfl
theorem mI_sV {σ : Mem} {t i : Nat} : mI (sV σ t i) = mI σ := rfl
theorem mL_sI {σ : Mem} {t i k : Nat} {v : Int32} : mL (sI σ t i k v) = mL σ := rfl
theorem mL_sV {σ : Mem} {t i : Nat} : mL (sV σ t i) = mL σ := rfl
theorem mR_sI {σ : Mem} {t i k : Nat} {v : Int32} : mR (sI σ t i k v) = mR σ := rfl
theorem mR_sL {σ : Mem} {t i k : Nat} {v : Int64} : mR (sL σ t i k v) = mR σ := rfl
theorem mR_sV {σ : Mem} {t i : Nat} : mR (sV σ t i) = mR σ := rfl
theorem mV_sI {σ : Mem} {t i k : Nat} {v : Int32} : mV (sI σ t i k v) = mV σ := rfl
theorem mV_sL {σ : Mem} {t i k : Nat} {v : Int64} : mV (sL σ t i k v) = mV σ := rfl
theorem w_o1 : Cond.instanceMethod objectInit ∈ lw_gd := gd_of (i := 66) (by decide +kernel) rfl
theorem w_o2 : Cond.code objectInit ⟨#[0xb1]⟩ 1 none ∈ lw_gd := gd_of (i := 67) (by decide +kernel) rfl
end LINK
