section LINK
variable {l : Launch} {D : va_G} {dA : Nat → ClassId} {H0 : Heap} {h0 : Hx} {Po : Option AV → Hp → Prop}
theorem qQ_movesIn_s5 {σ : Mem} {x0 : Nat} {x2 : Int32} {x3 : Int32} {x4 : Int32} {o1 : Option AV} {o5 : Option AV} {o6 : Option AV} {out : (Int32 × Int32 × Mem) ⊕ (Int32 × Mem)} (hk : kQ_movesIn_s5 x0 x2 (x3, x4, σ) = some out) (hc : ∀ (z3 : Int32) (z4 : Int32) (ς : Mem), out = .inl (z3, z4, ς) → ∀ (o1 o5 o6 : Option AV), J l D dA H0 YQ_movesIn h0 Po 0 0 (hp ς) 5 [some (vR (some (21, x0))), o1, some (vI x2), some (vI z3), some (vI z4), o5, o6] []) (hx0 : ∀ (z3 : Int32) (ς : Mem), out = .inr (z3, ς) → ∀ (o0 o1 o2 o4 o5 o6 : Option AV), J l D dA H0 YQ_movesIn h0 Po 0 0 (hp ς) 62 [o0, o1, o2, some (vI z3), o4, o5, o6] []) : J l D dA H0 YQ_movesIn h0 Po 0 0 (hp σ) 5 [some (vR (some (21, x0))), o1, some (vI x2), some (vI x3), some (vI x4), o5, o6] [] := by
  unfold kQ_movesIn_s5 at hk
  refine j_iload (pc' := 7) rfl rfl dX3_movesIn_5 ?_
  refine j_iload_n (pc' := 8) rfl rfl dX3_movesIn_7 ?_
  refine j_ic_ge (pc' := 11) (tg := 62) rfl rfl dX3_movesIn_8 (fun c8 => ?_) (fun c8 => ?_)
  · have hk := (if_pos c8).symm.trans hk
    obtain rfl := Option.some.inj hk
    exact hx0 _ _ rfl _ _ _ _ _ _
  · have hk := (if_neg c8).symm.trans hk
    refine j_aload_n (pc' := 12) rfl rfl dX3_movesIn_11 ?_
    refine j_iload (pc' := 14) rfl rfl dX3_movesIn_12 ?_
    refine j_iconst (pc' := 15) (v := 1) rfl rfl dX3_movesIn_14 ?_
    refine j_isub (pc' := 16) rfl dX3_movesIn_15 ?_
    obtain ⟨⟨r1, σ2⟩, hx, hk⟩ := of_bind hk
    refine j_cv1 (pc' := 19) (LQ_spotIn hx) cv_RX3_48 ⟨le_b rfl, le_b rfl⟩ (hp_e rfl) rfl rfl (le_b rfl) ⟨rfl, rfl⟩ ⟨le_b rfl, le_b rfl⟩ rfl rfl dX3_movesIn_16 ?_
    refine j_istore (pc' := 21) (lt_b rfl) rfl rfl dX3_movesIn_19 ?_
    refine j_aload_n (pc' := 22) rfl rfl dX3_movesIn_21 ?_
    refine j_iload (pc' := 24) rfl rfl dX3_movesIn_22 ?_
    obtain ⟨⟨r3, σ4⟩, hx, hk⟩ := of_bind hk
    refine j_cv1 (pc' := 27) (LQ_spotIn hx) cv_RX3_48 ⟨le_b rfl, le_b rfl⟩ (hp_e rfl) rfl rfl (le_b rfl) ⟨rfl, rfl⟩ ⟨le_b rfl, le_b rfl⟩ rfl rfl dX3_movesIn_24 ?_
    refine j_istore (pc' := 29) (lt_b rfl) rfl rfl dX3_movesIn_27 ?_
    refine j_iload_n (pc' := 30) rfl rfl dX3_movesIn_29 ?_
    refine j_iload (pc' := 32) rfl rfl dX3_movesIn_30 ?_
    refine j_iconst (pc' := 33) (v := (-1)) rfl rfl dX3_movesIn_32 ?_
    refine j_ic_eq (pc' := 36) (tg := 53) rfl rfl dX3_movesIn_33 (fun c7 => ?_) (fun c7 => ?_)
    · have hk := (if_pos c7).symm.trans hk
      refine j_iconst (pc' := 54) (v := 0) rfl rfl dX3_movesIn_53 ?_
      refine j_iadd (pc' := 55) rfl dX3_movesIn_54 ?_
      refine j_istore_n (pc' := 56) (lt_b rfl) rfl rfl dX3_movesIn_55 ?_
      refine j_iinc (pc' := 59) (v := x4 + 1) rfl rfl (lt_b rfl) rfl rfl dX3_movesIn_56 ?_
      refine j_goto (tg := 5) rfl dX3_movesIn_59 ?_
      obtain rfl := Option.some.inj hk
      exact hc _ _ _ rfl _ _ _
    · have hk := (if_neg c7).symm.trans hk
      refine j_iload (pc' := 38) rfl rfl dX3_movesIn_36 ?_
      refine j_iconst (pc' := 39) (v := (-1)) rfl rfl dX3_movesIn_38 ?_
      refine j_ic_eq (pc' := 42) (tg := 53) rfl rfl dX3_movesIn_39 (fun c6 => ?_) (fun c6 => ?_)
      · have hk := (if_pos c6).symm.trans hk
        refine j_iconst (pc' := 54) (v := 0) rfl rfl dX3_movesIn_53 ?_
        refine j_iadd (pc' := 55) rfl dX3_movesIn_54 ?_
        refine j_istore_n (pc' := 56) (lt_b rfl) rfl rfl dX3_movesIn_55 ?_
        refine j_iinc (pc' := 59) (v := x4 + 1) rfl rfl (lt_b rfl) rfl rfl dX3_movesIn_56 ?_
        refine j_goto (tg := 5) rfl dX3_movesIn_59 ?_
        obtain rfl := Option.some.inj hk
        exact hc _ _ _ rfl _ _ _
      · have hk := (if_neg c6).symm.trans hk
        refine j_iload (pc' := 44) rfl rfl dX3_movesIn_42 ?_
        refine j_iload (pc' := 46) rfl rfl dX3_movesIn_44 ?_
        refine j_ic_eq (pc' := 49) (tg := 53) rfl rfl dX3_movesIn_46 (fun c5 => ?_) (fun c5 => ?_)
        · have hk := (if_pos c5).symm.trans hk
          refine j_iconst (pc' := 54) (v := 0) rfl rfl dX3_movesIn_53 ?_
          refine j_iadd (pc' := 55) rfl dX3_movesIn_54 ?_
          refine j_istore_n (pc' := 56) (lt_b rfl) rfl rfl dX3_movesIn_55 ?_
          refine j_iinc (pc' := 59) (v := x4 + 1) rfl rfl (lt_b rfl) rfl rfl dX3_movesIn_56 ?_
          refine j_goto (tg := 5) rfl dX3_movesIn_59 ?_
          obtain rfl := Option.some.inj hk
          exact hc _ _ _ rfl _ _ _
        · have hk := (if_neg c5).symm.trans hk
          refine j_iconst (pc' := 50) (v := 1) rfl rfl dX3_movesIn_49 ?_
          refine j_goto (tg := 54) rfl dX3_movesIn_50 ?_
          refine j_iadd (pc' := 55) rfl dX3_movesIn_54 ?_
          refine j_istore_n (pc' := 56) (lt_b rfl) rfl rfl dX3_movesIn_55 ?_
          refine j_iinc (pc' := 59) (v := x4 + 1) rfl rfl (lt_b rfl) rfl rfl dX3_movesIn_56 ?_
          refine j_goto (tg := 5) rfl dX3_movesIn_59 ?_
          obtain rfl := Option.some.inj hk
          exact hc _ _ _ rfl _ _ _
theorem lQ_movesIn_s5 {x0 : Nat} {x2 : Int32} : ∀ (n : Nat) (x3 : Int32) (x4 : Int32) (σ : Mem) (e : (Int32 × Mem)), loopF n (kQ_movesIn_s5 x0 x2) (x3, x4, σ) = some e → (∀ (z3 : Int32) (ς : Mem), e = (z3, ς) → ∀ (o0 o1 o2 o4 o5 o6 : Option AV), J l D dA H0 YQ_movesIn h0 Po 0 0 (hp ς) 62 [o0, o1, o2, some (vI z3), o4, o5, o6] []) → ∀ (o1 o5 o6 : Option AV), J l D dA H0 YQ_movesIn h0 Po 0 0 (hp σ) 5 [some (vR (some (21, x0))), o1, some (vI x2), some (vI x3), some (vI x4), o5, o6] []
  | 0, x3, x4, σ, e, he => by cases he
  | n + 1, x3, x4, σ, e, he => by
    intro hx0 o1 o5 o6
    rcases loopF_succ he with ⟨s', h1, h2⟩ | h1
    · refine qQ_movesIn_s5 h1 ?_ ?_
      · intro z3 z4 ς ee
        cases ee
        exact lQ_movesIn_s5 n z3 z4 ς e h2 hx0
      · intro z3 ς ee
        cases ee
    · refine qQ_movesIn_s5 h1 ?_ ?_
      · intro z3 z4 ς ee
        cases ee
      · intro z3 ς ee
        exact hx0 z3 ς (Sum.inr.inj ee)
theorem qQ_movesIn_x62 {σ : Mem} {x3 : Int32} {o0 : Option AV} {o1 : Option AV} {o2 : Option AV} {o4 : Option AV} {o5 : Option AV} {o6 : Option AV} {res : Int32 × Mem} (hk : kQ_movesIn_x62 σ x3 = some res) (hP : Po (some (vI res.1)) (hp res.2)) : J l D dA H0 YQ_movesIn h0 Po 0 0 (hp σ) 62 [o0, o1, o2, some (vI x3), o4, o5, o6] [] := by
  unfold kQ_movesIn_x62 at hk
  refine j_iload_n (pc' := 63) rfl rfl dX3_movesIn_62 ?_
  obtain rfl := Option.some.inj hk
  exact j_iret rfl ⟨rfl, rfl⟩ dX3_movesIn_63 hP
theorem qQ_movesIn {σ : Mem} {x0 : Nat} {x1 : Int32} {x2 : Int32} {o3 : Option AV} {o4 : Option AV} {o5 : Option AV} {o6 : Option AV} {res : Int32 × Mem} (hk : kQ_movesIn σ x0 x1 x2 = some res) (hP : Po (some (vI res.1)) (hp res.2)) : J l D dA H0 YQ_movesIn h0 Po 0 0 (hp σ) 0 [some (vR (some (21, x0))), some (vI x1), some (vI x2), o3, o4, o5, o6] [] := by
  unfold kQ_movesIn at hk
  refine j_iconst (pc' := 1) (v := 0) rfl rfl dX3_movesIn_0 ?_
  refine j_istore_n (pc' := 2) (lt_b rfl) rfl rfl dX3_movesIn_1 ?_
  refine j_iload_n (pc' := 3) rfl rfl dX3_movesIn_2 ?_
  refine j_istore (pc' := 5) (lt_b rfl) rfl rfl dX3_movesIn_3 ?_
  obtain ⟨e, he, hk⟩ := of_bind hk
  refine lQ_movesIn_s5 FU _ _ _ e he ?_ _ _ _
  · intro z3 ς ee _ _ _ _ _ _
    subst ee
    exact qQ_movesIn_x62 hk hP
theorem LQ_movesIn {σ σ' : Mem} {x0 : Nat} {x1 : Int32} {x2 : Int32} {r : Int32} (hk : kQ_movesIn σ x0 x1 x2 = some (r, σ')) : M l D dA H0 yX3_movesIn YQ_movesIn [vR (some (21, x0)), vI x1, vI x2] (hp σ) (fun x h' => x = some (vI r) ∧ h' = hp σ') :=
  m_of (j := 4) (by decide) rfl (fun hh => by cases hh) ⟨fun _ _ => trivial, rfl⟩ (le_b rfl) (qQ_movesIn hk ⟨rfl, rfl⟩)
abbrev rawR : AE := .inr (4, [vI 0, vI 0, vI 0, vI 0, vI 0, vI 0, vL 0])
theorem LR_init {σ σ' : Mem} {x0 : Nat} {x1 x2 x3 x4 : Int32} {r : Unit} (hk : kR_init σ x0 x1 x2 x3 x4 = some (r, σ')) : M l D dA H0 yX4_init YR_init [vR (some (20, x0)), vI x1, vI x2, vI x3, vI x4] (up (hp σ) (20, x0) rawR) (fun x h' => x = none ∧ h' = hp σ') := by
  obtain ⟨-, rfl⟩ := Prod.mk.inj (Option.some.inj hk)
  refine m_of (j := 0) (by decide) rfl (fun _ => rfl) ⟨fun _ _ => trivial, rfl⟩ (le_b rfl) ?_
  have key : ∀ z : Int32, z = (if x1 = 3 then x3 else if x1 = 0 then 1 else 2) → J l D dA H0 YR_init (nx (up (hp σ) (20, x0) rawR)) (fun x h' => x = none ∧ h' = hp (sV (sL (sI (sI (sI (sI (sI (sI σ 20 x0 0 x1) 20 x0 1 x2) 20 x0 2 (if x1 = 3 then x3 else if x1 = 0 then 1 else 2)) 20 x0 3 (-1)) 20 x0 4 0) 20 x0 5 x4) 20 x0 6 0) 20 x0)) 0 0 (up (hp σ) (20, x0) (.inr (4, [vI x1, vI x2, vI 0, vI (-1), vI 0, vI 0, vL 0]))) 38 [some (vR (some (20, x0))), some (vI x1), some (vI x2), some (vI x3), some (vI x4)] [vI z, vR (some (20, x0))] := by
    intro z hz
    subst hz
    refine j_pc (pc' := 41) (ty := .int) fg_RX4_21 ttX4 rfl (Or.inr ⟨rfl, rfl, rfl⟩) (fun _ => ⟨rfl, rfl⟩) (lt_b rfl) rfl dX4_init_38 ?_
    refine j_aload_n (pc' := 42) rfl rfl dX4_init_41 ?_
    refine j_iload (pc' := 44) rfl rfl dX4_init_42 ?_
    refine j_pc (pc' := 47) (ty := .int) fg_RX4_24 ttX4 rfl (Or.inl rfl) (fun _ => ⟨rfl, rfl⟩) (lt_b rfl) rfl dX4_init_44 ?_
    refine j_ret rfl ⟨rfl, rfl⟩ dX4_init_47 ⟨rfl, ?_⟩
    refine hp_mk (fun t' i' e => ?_) (by simp [mV, sV]) ?_
    · simp only [oI e, oL e, oV e, mI_sL, mI_sV, mL_sI, mL_sV, mR_sI, mR_sL, mR_sV, mV_sI, mV_sL, and_self]
    · show some (Sum.inr (4, _)) = _
      simp [mI, mL, sI, sL, sV]
  refine j_aload_n (pc' := 1) rfl rfl dX4_init_0 ?_
  refine j_oinit (pc' := 4) (gd_of (i := 218) (by decide +kernel) rfl) w_o1 w_o2 (le_b rfl) (le_b rfl) rfl dX4_init_1 ?_
  refine j_aload_n (pc' := 5) rfl rfl dX4_init_4 ?_
  refine j_iconst (pc' := 6) (v := (-1)) (by decide) rfl dX4_init_5 ?_
  refine j_pc (pc' := 9) (ty := .int) fg_RX4_9 ttX4 rfl (Or.inl rfl) (fun _ => ⟨rfl, rfl⟩) (lt_b rfl) rfl dX4_init_6 ?_
  refine j_aload_n (pc' := 10) rfl rfl dX4_init_9 ?_
  refine j_iload_n (pc' := 11) rfl rfl dX4_init_10 ?_
  refine j_pc (pc' := 14) (ty := .int) fg_RX4_15 ttX4 rfl (Or.inr ⟨rfl, rfl, rfl⟩) (fun _ => ⟨rfl, rfl⟩) (lt_b rfl) rfl dX4_init_11 ?_
  refine j_aload_n (pc' := 15) rfl rfl dX4_init_14 ?_
  refine j_iload_n (pc' := 16) rfl rfl dX4_init_15 ?_
  refine j_pc (pc' := 19) (ty := .int) fg_RX4_18 ttX4 rfl (Or.inr ⟨rfl, rfl, rfl⟩) (fun _ => ⟨rfl, rfl⟩) (lt_b rfl) rfl dX4_init_16 ?_
  refine j_aload_n (pc' := 20) rfl rfl dX4_init_19 ?_
  refine j_iload_n (pc' := 21) rfl rfl dX4_init_20 ?_
  refine j_iconst (pc' := 22) (v := 3) rfl rfl dX4_init_21 ?_
  refine j_ic_ne (pc' := 25) (tg := 29) rfl rfl dX4_init_22 (fun c1 => ?_) (fun c1 => ?_)
  · refine j_iload_n (pc' := 30) rfl rfl dX4_init_29 ?_
    refine j_if_ne (pc' := 33) (tg := 37) rfl rfl dX4_init_30 (fun c2 => ?_) (fun c2 => ?_)
    · refine j_iconst (pc' := 38) (v := 2) rfl rfl dX4_init_37 ?_
      exact key 2 (by rw [if_neg c1, if_neg c2])
    · refine j_iconst (pc' := 34) (v := 1) rfl rfl dX4_init_33 ?_
      refine j_goto (tg := 38) rfl dX4_init_34 ?_
      exact key 1 (by rw [if_neg c1, if_pos c2])
  · refine j_iload_n (pc' := 26) rfl rfl dX4_init_25 ?_
    refine j_goto (tg := 38) rfl dX4_init_26 ?_
    exact key x3 (by rw [if_pos c1])
theorem qJL_bitCount {σ : Mem} {x0 : Int64} {o1 : Option AV} {res : Int32 × Mem} (hk : kJL_bitCount σ x0 = some res) (hP : Po (some (vI res.1)) (hp res.2)) : J l D dA H0 YJL_bitCount h0 Po 0 0 (hp σ) 0 [some (vL x0), o1] [] := by
  unfold kJL_bitCount at hk
  refine j_lload_n (pc' := 1) rfl rfl dJ13_bitCount_95d88_0 ?_
  refine j_lload_n (pc' := 2) rfl rfl dJ13_bitCount_95d88_1 ?_
  refine j_iconst (pc' := 3) (v := 1) rfl rfl dJ13_bitCount_95d88_2 ?_
  refine j_lushr (pc' := 4) rfl dJ13_bitCount_95d88_3 ?_
  refine j_ldc2 (pc' := 7) (v := 6148914691236517205) (gd_of (i := 301) (by decide +kernel) rfl) rfl dJ13_bitCount_95d88_4 ?_
  refine j_land (pc' := 8) rfl dJ13_bitCount_95d88_7 ?_
  refine j_lsub (pc' := 9) rfl dJ13_bitCount_95d88_8 ?_
  refine j_lstore_n (pc' := 10) (lt_b rfl) rfl rfl dJ13_bitCount_95d88_9 ?_
  refine j_lload_n (pc' := 11) rfl rfl dJ13_bitCount_95d88_10 ?_
  refine j_ldc2 (pc' := 14) (v := 3689348814741910323) (gd_of (i := 302) (by decide +kernel) rfl) rfl dJ13_bitCount_95d88_11 ?_
  refine j_land (pc' := 15) rfl dJ13_bitCount_95d88_14 ?_
  refine j_lload_n (pc' := 16) rfl rfl dJ13_bitCount_95d88_15 ?_
  refine j_iconst (pc' := 17) (v := 2) rfl rfl dJ13_bitCount_95d88_16 ?_
  refine j_lushr (pc' := 18) rfl dJ13_bitCount_95d88_17 ?_
  refine j_ldc2 (pc' := 21) (v := 3689348814741910323) (gd_of (i := 302) (by decide +kernel) rfl) rfl dJ13_bitCount_95d88_18 ?_
  refine j_land (pc' := 22) rfl dJ13_bitCount_95d88_21 ?_
  refine j_ladd (pc' := 23) rfl dJ13_bitCount_95d88_22 ?_
  refine j_lstore_n (pc' := 24) (lt_b rfl) rfl rfl dJ13_bitCount_95d88_23 ?_
  refine j_lload_n (pc' := 25) rfl rfl dJ13_bitCount_95d88_24 ?_
  refine j_lload_n (pc' := 26) rfl rfl dJ13_bitCount_95d88_25 ?_
  refine j_iconst (pc' := 27) (v := 4) rfl rfl dJ13_bitCount_95d88_26 ?_
  refine j_lushr (pc' := 28) rfl dJ13_bitCount_95d88_27 ?_
  refine j_ladd (pc' := 29) rfl dJ13_bitCount_95d88_28 ?_
  refine j_ldc2 (pc' := 32) (v := 1085102592571150095) (gd_of (i := 303) (by decide +kernel) rfl) rfl dJ13_bitCount_95d88_29 ?_
  refine j_land (pc' := 33) rfl dJ13_bitCount_95d88_32 ?_
  refine j_lstore_n (pc' := 34) (lt_b rfl) rfl rfl dJ13_bitCount_95d88_33 ?_
  refine j_lload_n (pc' := 35) rfl rfl dJ13_bitCount_95d88_34 ?_
  refine j_lload_n (pc' := 36) rfl rfl dJ13_bitCount_95d88_35 ?_
  refine j_bipush (pc' := 38) (v := 8) rfl rfl dJ13_bitCount_95d88_36 ?_
  refine j_lushr (pc' := 39) rfl dJ13_bitCount_95d88_38 ?_
  refine j_ladd (pc' := 40) rfl dJ13_bitCount_95d88_39 ?_
  refine j_lstore_n (pc' := 41) (lt_b rfl) rfl rfl dJ13_bitCount_95d88_40 ?_
  refine j_lload_n (pc' := 42) rfl rfl dJ13_bitCount_95d88_41 ?_
  refine j_lload_n (pc' := 43) rfl rfl dJ13_bitCount_95d88_42 ?_
  refine j_bipush (pc' := 45) (v := 16) rfl rfl dJ13_bitCount_95d88_43 ?_
  refine j_lushr (pc' := 46) rfl dJ13_bitCount_95d88_45 ?_
  refine j_ladd (pc' := 47) rfl dJ13_bitCount_95d88_46 ?_
  refine j_lstore_n (pc' := 48) (lt_b rfl) rfl rfl dJ13_bitCount_95d88_47 ?_
  refine j_lload_n (pc' := 49) rfl rfl dJ13_bitCount_95d88_48 ?_
  refine j_lload_n (pc' := 50) rfl rfl dJ13_bitCount_95d88_49 ?_
  refine j_bipush (pc' := 52) (v := 32) rfl rfl dJ13_bitCount_95d88_50 ?_
  refine j_lushr (pc' := 53) rfl dJ13_bitCount_95d88_52 ?_
  refine j_ladd (pc' := 54) rfl dJ13_bitCount_95d88_53 ?_
  refine j_lstore_n (pc' := 55) (lt_b rfl) rfl rfl dJ13_bitCount_95d88_54 ?_
  refine j_lload_n (pc' := 56) rfl rfl dJ13_bitCount_95d88_55 ?_
  refine j_l2i (pc' := 57) rfl dJ13_bitCount_95d88_56 ?_
  refine j_bipush (pc' := 59) (v := 127) rfl rfl dJ13_bitCount_95d88_57 ?_
  refine j_iand (pc' := 60) rfl dJ13_bitCount_95d88_59 ?_
  obtain rfl := Option.some.inj hk
  exact j_iret rfl ⟨rfl, rfl⟩ dJ13_bitCount_95d88_60 hP
theorem LJL_bitCount {σ σ' : Mem} {x0 : Int64} {r : Int32} (hk : kJL_bitCount σ x0 = some (r, σ')) : M l D dA H0 yJ13_bitCount_95d88 YJL_bitCount [vL x0] (hp σ) (fun x h' => x = some (vI r) ∧ h' = hp σ') :=
  m_of (j := 0) (by decide) rfl (fun hh => by cases hh) ⟨fun _ _ => trivial, rfl⟩ (le_b rfl) (qJL_bitCount hk ⟨rfl, rfl⟩)
theorem qR_setShut_j53 {σ : Mem} {x0 : Nat} {y0 : Int64} {y1 : Int64} {o1 : Option AV} {o2 : Option AV} {o3 : Option AV} {o4 : Option AV} {o5 : Option AV} {o6 : Option AV} {o7 : Option AV} {o8 : Option AV} {res : Int32 × Mem} (hk : kR_setShut_j53 σ x0 y0 y1 = some res) (hP : Po (some (vI res.1)) (hp res.2)) : J l D dA H0 YR_setShut h0 Po 0 0 (hp σ) 53 [some (vR (some (20, x0))), o1, o2, o3, o4, o5, o6, o7, o8] [vL y0, vL y1] := by
  unfold kR_setShut_j53 at hk
  refine j_land (pc' := 54) rfl dX4_setShut_53 ?_
  refine j_lstore (pc' := 56) (lt_b rfl) rfl rfl dX4_setShut_54 ?_
  refine j_aload_n (pc' := 57) rfl rfl dX4_setShut_56 ?_
  refine j_dup (pc' := 58) rfl rfl dX4_setShut_57 ?_
  refine j_getf (pc' := 61) fg_RX4_31 (hp_e rfl) rfl rfl dX4_setShut_58 ?_
  refine j_lload (pc' := 63) rfl rfl dX4_setShut_61 ?_
  refine j_lxor (pc' := 64) rfl dX4_setShut_63 ?_
  refine j_pl (pc' := 67) fg_RX4_31 ttX4 rfl rfl rfl (lt_b rfl) rfl rfl dX4_setShut_64 ?_
  refine j_lload (pc' := 69) rfl rfl dX4_setShut_67 ?_
  obtain ⟨⟨r1, σ2⟩, hx, hk⟩ := of_bind hk
  refine j_cs1 (pc' := 72) (LJL_bitCount hx) cs_RX4_47 ⟨le_b rfl, le_b rfl⟩ rfl (le_b rfl) ⟨rfl, rfl⟩ ⟨le_b rfl, le_b rfl⟩ rfl rfl dX4_setShut_69 ?_
  obtain rfl := Option.some.inj hk
  exact j_iret rfl ⟨rfl, rfl⟩ dX4_setShut_72 hP
theorem qR_setShut {σ : Mem} {x0 : Nat} {x1 : Int32} {x2 : Int32} {x3 : Int32} {o4 : Option AV} {o5 : Option AV} {o6 : Option AV} {o7 : Option AV} {o8 : Option AV} {res : Int32 × Mem} (hk : kR_setShut σ x0 x1 x2 x3 = some res) (hP : Po (some (vI res.1)) (hp res.2)) : J l D dA H0 YR_setShut h0 Po 0 0 (hp σ) 0 [some (vR (some (20, x0))), some (vI x1), some (vI x2), some (vI x3), o4, o5, o6, o7, o8] [] := by
  unfold kR_setShut at hk
  refine j_iload_n (pc' := 1) rfl rfl dX4_setShut_0 ?_
  refine j_aload_n (pc' := 2) rfl rfl dX4_setShut_1 ?_
  refine j_getf (pc' := 5) fg_RX4_24 (hp_e rfl) rfl rfl dX4_setShut_2 ?_
  refine j_min (pc' := 8) ⟨gd_of (i := 296) (by decide +kernel) rfl, gd_of (i := 260) (by decide +kernel) rfl, gd_of (i := 50) (by decide +kernel) rfl, gd_of (i := 261) (by decide +kernel) rfl⟩ (le_b rfl) (le_b rfl) ⟨le_b rfl, le_b rfl⟩ rfl dX4_setShut_5 ?_
  refine j_istore (pc' := 10) (lt_b rfl) rfl rfl dX4_setShut_8 ?_
  refine j_iload_n (pc' := 11) rfl rfl dX4_setShut_10 ?_
  refine j_if_lt (pc' := 14) (tg := 20) rfl rfl dX4_setShut_11 (fun c5 => ?_) (fun c5 => ?_)
  · have hk := (if_pos c5).symm.trans hk
    refine j_iconst (pc' := 21) (v := 0) rfl rfl dX4_setShut_20 ?_
    obtain rfl := Option.some.inj hk
    exact j_iret rfl ⟨rfl, rfl⟩ dX4_setShut_21 hP
  · have hk := (if_neg c5).symm.trans hk
    refine j_iload_n (pc' := 15) rfl rfl dX4_setShut_14 ?_
    refine j_iload (pc' := 17) rfl rfl dX4_setShut_15 ?_
    refine j_ic_lt (pc' := 20) (tg := 22) rfl rfl dX4_setShut_17 (fun c4 => ?_) (fun c4 => ?_)
    · have hk := (if_pos c4).symm.trans hk
      refine j_lconst (pc' := 23) (v := 1) rfl rfl dX4_setShut_22 ?_
      refine j_iload (pc' := 25) rfl rfl dX4_setShut_23 ?_
      refine j_lshl (pc' := 26) rfl dX4_setShut_25 ?_
      refine j_lconst (pc' := 27) (v := 1) rfl rfl dX4_setShut_26 ?_
      refine j_iload_n (pc' := 28) rfl rfl dX4_setShut_27 ?_
      refine j_lshl (pc' := 29) rfl dX4_setShut_28 ?_
      refine j_lsub (pc' := 30) rfl dX4_setShut_29 ?_
      refine j_lstore (pc' := 32) (lt_b rfl) rfl rfl dX4_setShut_30 ?_
      refine j_lload (pc' := 34) rfl rfl dX4_setShut_32 ?_
      refine j_iload_n (pc' := 35) rfl rfl dX4_setShut_34 ?_
      refine j_if_eq (pc' := 38) (tg := 49) rfl rfl dX4_setShut_35 (fun c3 => ?_) (fun c3 => ?_)
      · have hk := (if_pos c3).symm.trans hk
        refine j_aload_n (pc' := 50) rfl rfl dX4_setShut_49 ?_
        refine j_getf (pc' := 53) fg_RX4_31 (hp_e rfl) rfl rfl dX4_setShut_50 ?_
        exact qR_setShut_j53 hk hP
      · have hk := (if_neg c3).symm.trans hk
        refine j_aload_n (pc' := 39) rfl rfl dX4_setShut_38 ?_
        refine j_getf (pc' := 42) fg_RX4_31 (hp_e rfl) rfl rfl dX4_setShut_39 ?_
        refine j_ldc2 (pc' := 45) (v := (-1)) (gd_of (i := 297) (by decide +kernel) rfl) rfl dX4_setShut_42 ?_
        refine j_lxor (pc' := 46) rfl dX4_setShut_45 ?_
        refine j_goto (tg := 53) rfl dX4_setShut_46 ?_
        exact qR_setShut_j53 hk hP
    · have hk := (if_neg c4).symm.trans hk
      refine j_iconst (pc' := 21) (v := 0) rfl rfl dX4_setShut_20 ?_
      obtain rfl := Option.some.inj hk
      exact j_iret rfl ⟨rfl, rfl⟩ dX4_setShut_21 hP
theorem LR_setShut {σ σ' : Mem} {x0 : Nat} {x1 : Int32} {x2 : Int32} {x3 : Int32} {r : Int32} (hk : kR_setShut σ x0 x1 x2 x3 = some (r, σ')) : M l D dA H0 yX4_setShut YR_setShut [vR (some (20, x0)), vI x1, vI x2, vI x3] (hp σ) (fun x h' => x = some (vI r) ∧ h' = hp σ') :=
  m_of (j := 5) (by decide) rfl (fun hh => by cases hh) ⟨fun _ _ => trivial, rfl⟩ (le_b rfl) (qR_setShut hk ⟨rfl, rfl⟩)
theorem qR_lengthen {σ : Mem} {x0 : Nat} {x1 : Int32} {res : Int32 × Mem} (hk : kR_lengthen σ x0 x1 = some res) (hP : Po (some (vI res.1)) (hp res.2)) : J l D dA H0 YR_lengthen h0 Po 0 0 (hp σ) 0 [some (vR (some (20, x0))), some (vI x1)] [] := by
  unfold kR_lengthen at hk
  refine j_iload_n (pc' := 1) rfl rfl dX4_lengthen_0 ?_
  refine j_if_lt (pc' := 4) (tg := 15) rfl rfl dX4_lengthen_1 (fun c2 => ?_) (fun c2 => ?_)
  · have hk := (if_pos c2).symm.trans hk
    refine j_iconst (pc' := 16) (v := (-1)) rfl rfl dX4_lengthen_15 ?_
    obtain rfl := Option.some.inj hk
    exact j_iret rfl ⟨rfl, rfl⟩ dX4_lengthen_16 hP
  · have hk := (if_neg c2).symm.trans hk
    refine j_iload_n (pc' := 5) rfl rfl dX4_lengthen_4 ?_
    refine j_bipush (pc' := 7) (v := 60) rfl rfl dX4_lengthen_5 ?_
    refine j_aload_n (pc' := 8) rfl rfl dX4_lengthen_7 ?_
    refine j_getf (pc' := 11) fg_RX4_24 (hp_e rfl) rfl rfl dX4_lengthen_8 ?_
    refine j_isub (pc' := 12) rfl dX4_lengthen_11 ?_
    refine j_ic_le (pc' := 15) (tg := 17) rfl rfl dX4_lengthen_12 (fun c1 => ?_) (fun c1 => ?_)
    · have hk := (if_pos c1).symm.trans hk
      refine j_aload_n (pc' := 18) rfl rfl dX4_lengthen_17 ?_
      refine j_iconst (pc' := 19) (v := 0) rfl rfl dX4_lengthen_18 ?_
      refine j_pi (pc' := 22) (ty := .boolean) fg_RX4_27 ttX4 rfl rfl ⟨rfl, rfl⟩ rfl (lt_b rfl) rfl rfl dX4_lengthen_19 ?_
      refine j_aload_n (pc' := 23) rfl rfl dX4_lengthen_22 ?_
      refine j_dup (pc' := 24) rfl rfl dX4_lengthen_23 ?_
      refine j_getf (pc' := 27) fg_RX4_24 (hp_e rfl) rfl rfl dX4_lengthen_24 ?_
      refine j_iload_n (pc' := 28) rfl rfl dX4_lengthen_27 ?_
      refine j_iadd (pc' := 29) rfl dX4_lengthen_28 ?_
      refine j_pi (pc' := 32) (ty := .int) fg_RX4_24 ttX4 rfl rfl ⟨rfl, rfl⟩ rfl (lt_b rfl) rfl rfl dX4_lengthen_29 ?_
      refine j_aload_n (pc' := 33) rfl rfl dX4_lengthen_32 ?_
      refine j_getf (pc' := 36) fg_RX4_24 (hp_e rfl) rfl rfl dX4_lengthen_33 ?_
      obtain rfl := Option.some.inj hk
      exact j_iret rfl ⟨rfl, rfl⟩ dX4_lengthen_36 hP
    · have hk := (if_neg c1).symm.trans hk
      refine j_iconst (pc' := 16) (v := (-1)) rfl rfl dX4_lengthen_15 ?_
      obtain rfl := Option.some.inj hk
      exact j_iret rfl ⟨rfl, rfl⟩ dX4_lengthen_16 hP
theorem LR_lengthen {σ σ' : Mem} {x0 : Nat} {x1 : Int32} {r : Int32} (hk : kR_lengthen σ x0 x1 = some (r, σ')) : M l D dA H0 yX4_lengthen YR_lengthen [vR (some (20, x0)), vI x1] (hp σ) (fun x h' => x = some (vI r) ∧ h' = hp σ') :=
  m_of (j := 0) (by decide) rfl (fun hh => by cases hh) ⟨fun _ _ => trivial, rfl⟩ (le_b rfl) (qR_lengthen hk ⟨rfl, rfl⟩)
theorem qR_closeAltogether {σ : Mem} {x0 : Nat} {res : Unit × Mem} (hk : kR_closeAltogether σ x0 = some res) (hP : Po none (hp res.2)) : J l D dA H0 YR_closeAltogether h0 Po 0 0 (hp σ) 0 [some (vR (some (20, x0)))] [] := by
  unfold kR_closeAltogether at hk
  refine j_aload_n (pc' := 1) rfl rfl dX4_closeAltogether_0 ?_
  refine j_iconst (pc' := 2) (v := 1) rfl rfl dX4_closeAltogether_1 ?_
  refine j_pi (pc' := 5) (ty := .boolean) fg_RX4_27 ttX4 rfl rfl ⟨rfl, rfl⟩ rfl (lt_b rfl) rfl rfl dX4_closeAltogether_2 ?_
  refine j_aload_n (pc' := 6) rfl rfl dX4_closeAltogether_5 ?_
  refine j_iconst (pc' := 7) (v := 0) rfl rfl dX4_closeAltogether_6 ?_
  refine j_pi (pc' := 10) (ty := .int) fg_RX4_24 ttX4 rfl rfl ⟨rfl, rfl⟩ rfl (lt_b rfl) rfl rfl dX4_closeAltogether_7 ?_
  refine j_aload_n (pc' := 11) rfl rfl dX4_closeAltogether_10 ?_
  refine j_lconst (pc' := 12) (v := 0) rfl rfl dX4_closeAltogether_11 ?_
  refine j_pl (pc' := 15) fg_RX4_31 ttX4 rfl rfl rfl (lt_b rfl) rfl rfl dX4_closeAltogether_12 ?_
  obtain rfl := Option.some.inj hk
  exact j_ret rfl ⟨rfl, rfl⟩ dX4_closeAltogether_15 hP
theorem LR_closeAltogether {σ σ' : Mem} {x0 : Nat} {r : Unit} (hk : kR_closeAltogether σ x0 = some (r, σ')) : M l D dA H0 yX4_closeAltogether YR_closeAltogether [vR (some (20, x0))] (hp σ) (fun x h' => x = none ∧ h' = hp σ') :=
  m_of (j := 0) (by decide) rfl (fun hh => by cases hh) ⟨fun _ _ => trivial, rfl⟩ (le_b rfl) (qR_closeAltogether hk ⟨rfl, rfl⟩)
abbrev rawU : AE := .inr (5, [vI 0, vI 0, vI 0, vI 0])
theorem LU_init {σ σ' : Mem} {x0 : Nat} {x1 x2 x3 : Int32} {r : Unit} (hk : kU_init σ x0 x1 x2 x3 = some (r, σ')) : M l D dA H0 yX5_init YU_init [vR (some (23, x0)), vI x1, vI x2, vI x3] (up (hp σ) (23, x0) rawU) (fun x h' => x = none ∧ h' = hp σ') := by
  obtain ⟨-, rfl⟩ := Prod.mk.inj (Option.some.inj hk)
  refine m_of (j := 0) (by decide) rfl (fun _ => rfl) ⟨fun _ _ => trivial, rfl⟩ (le_b rfl) ?_
  refine j_aload_n (pc' := 1) rfl rfl dX5_init_0 ?_
  refine j_oinit (pc' := 4) (gd_of (i := 704) (by decide +kernel) rfl) w_o1 w_o2 (le_b rfl) (le_b rfl) rfl dX5_init_1 ?_
  refine j_aload_n (pc' := 5) rfl rfl dX5_init_4 ?_
  refine j_iconst (pc' := 6) (v := 1) rfl rfl dX5_init_5 ?_
  refine j_pc (pc' := 9) (ty := .boolean) fg_RX5_9 ttX5 rfl (Or.inl rfl) (fun _ => ⟨rfl, rfl⟩) (lt_b rfl) rfl dX5_init_6 ?_
  refine j_aload_n (pc' := 10) rfl rfl dX5_init_9 ?_
  refine j_iload_n (pc' := 11) rfl rfl dX5_init_10 ?_
  refine j_pc (pc' := 14) (ty := .int) fg_RX5_15 ttX5 rfl (Or.inr ⟨rfl, rfl, rfl⟩) (fun _ => ⟨rfl, rfl⟩) (lt_b rfl) rfl dX5_init_11 ?_
  refine j_aload_n (pc' := 15) rfl rfl dX5_init_14 ?_
  refine j_iload_n (pc' := 16) rfl rfl dX5_init_15 ?_
  refine j_pc (pc' := 19) (ty := .int) fg_RX5_19 ttX5 rfl (Or.inr ⟨rfl, rfl, rfl⟩) (fun _ => ⟨rfl, rfl⟩) (lt_b rfl) rfl dX5_init_16 ?_
  refine j_aload_n (pc' := 20) rfl rfl dX5_init_19 ?_
  refine j_iload_n (pc' := 21) rfl rfl dX5_init_20 ?_
  refine j_pc (pc' := 24) (ty := .int) fg_RX5_22 ttX5 rfl (Or.inr ⟨rfl, rfl, rfl⟩) (fun _ => ⟨rfl, rfl⟩) (lt_b rfl) rfl dX5_init_21 ?_
  refine j_ret rfl ⟨rfl, rfl⟩ dX5_init_24 ⟨rfl, ?_⟩
  refine hp_mk (fun t' i' e => ?_) (by simp [mV, sV]) ?_
  · simp only [oI e, oV e, mI_sV, mL_sI, mL_sV, mR_sI, mR_sV, mV_sI, and_self]
  · show some (Sum.inr (5, _)) = _
    simp [mI, sI, sV]
theorem qU_forbidsEnd {σ : Mem} {x0 : Nat} {x1 : Int32} {res : Int32 × Mem} (hk : kU_forbidsEnd σ x0 x1 = some res) (hP : Po (some (vI res.1)) (hp res.2)) : J l D dA H0 YU_forbidsEnd h0 Po 0 0 (hp σ) 0 [some (vR (some (23, x0))), some (vI x1)] [] := by
  unfold kU_forbidsEnd at hk
  refine j_aload_n (pc' := 1) rfl rfl dX5_forbidsEnd_0 ?_
  refine j_getf (pc' := 4) fg_RX5_9 (hp_e rfl) rfl rfl dX5_forbidsEnd_1 ?_
  refine j_if_eq (pc' := 7) (tg := 29) rfl rfl dX5_forbidsEnd_4 (fun c3 => ?_) (fun c3 => ?_)
  · have hk := (if_pos c3).symm.trans hk
    refine j_iconst (pc' := 30) (v := 0) rfl rfl dX5_forbidsEnd_29 ?_
    obtain rfl := Option.some.inj hk
    exact j_zret rfl rfl ⟨rfl, rfl⟩ dX5_forbidsEnd_30 hP
  · have hk := (if_neg c3).symm.trans hk
    refine j_aload_n (pc' := 8) rfl rfl dX5_forbidsEnd_7 ?_
    refine j_getf (pc' := 11) fg_RX5_15 (hp_e rfl) rfl rfl dX5_forbidsEnd_8 ?_
    refine j_iconst (pc' := 12) (v := 2) rfl rfl dX5_forbidsEnd_11 ?_
    refine j_ic_ne (pc' := 15) (tg := 29) rfl rfl dX5_forbidsEnd_12 (fun c2 => ?_) (fun c2 => ?_)
    · have hk := (if_neg c2).symm.trans hk
      refine j_iconst (pc' := 30) (v := 0) rfl rfl dX5_forbidsEnd_29 ?_
      obtain rfl := Option.some.inj hk
      exact j_zret rfl rfl ⟨rfl, rfl⟩ dX5_forbidsEnd_30 hP
    · have hk := (if_pos c2).symm.trans hk
      refine j_iload_n (pc' := 16) rfl rfl dX5_forbidsEnd_15 ?_
      refine j_aload_n (pc' := 17) rfl rfl dX5_forbidsEnd_16 ?_
      refine j_getf (pc' := 20) fg_RX5_19 (hp_e rfl) rfl rfl dX5_forbidsEnd_17 ?_
      refine j_iconst (pc' := 21) (v := 1) rfl rfl dX5_forbidsEnd_20 ?_
      refine j_iadd (pc' := 22) rfl dX5_forbidsEnd_21 ?_
      refine j_ic_ne (pc' := 25) (tg := 29) rfl rfl dX5_forbidsEnd_22 (fun c1 => ?_) (fun c1 => ?_)
      · have hk := (if_neg c1).symm.trans hk
        refine j_iconst (pc' := 30) (v := 0) rfl rfl dX5_forbidsEnd_29 ?_
        obtain rfl := Option.some.inj hk
        exact j_zret rfl rfl ⟨rfl, rfl⟩ dX5_forbidsEnd_30 hP
      · have hk := (if_pos c1).symm.trans hk
        refine j_iconst (pc' := 26) (v := 1) rfl rfl dX5_forbidsEnd_25 ?_
        refine j_goto (tg := 30) rfl dX5_forbidsEnd_26 ?_
        obtain rfl := Option.some.inj hk
        exact j_zret rfl rfl ⟨rfl, rfl⟩ dX5_forbidsEnd_30 hP
theorem LU_forbidsEnd {σ σ' : Mem} {x0 : Nat} {x1 : Int32} {r : Int32} (hk : kU_forbidsEnd σ x0 x1 = some (r, σ')) : M l D dA H0 yX5_forbidsEnd YU_forbidsEnd [vR (some (23, x0)), vI x1] (hp σ) (fun x h' => x = some (vI r) ∧ h' = hp σ') :=
  m_of (j := 0) (by decide) rfl (fun hh => by cases hh) ⟨fun _ _ => trivial, rfl⟩ (le_b rfl) (qU_forbidsEnd hk ⟨rfl, rfl⟩)
theorem qU_percentageOf_j36 {σ : Mem} {x0 : Nat} {y0 : Int32} {o1 : Option AV} {o2 : Option AV} {o3 : Option AV} {res : Int32 × Mem} (hk : kU_percentageOf_j36 σ x0 y0 = some res) (hP : Po (some (vI res.1)) (hp res.2)) : J l D dA H0 YU_percentageOf h0 Po 0 0 (hp σ) 36 [some (vR (some (23, x0))), o1, o2, o3] [vI y0] := by
  unfold kU_percentageOf_j36 at hk
  refine j_istore_n (pc' := 37) (lt_b rfl) rfl rfl dX5_percentageOf_36 ?_
  refine j_aload_n (pc' := 38) rfl rfl dX5_percentageOf_37 ?_
  refine j_getf (pc' := 41) fg_RX5_9 (hp_e rfl) rfl rfl dX5_percentageOf_38 ?_
  refine j_if_eq (pc' := 44) (tg := 55) rfl rfl dX5_percentageOf_41 (fun c2 => ?_) (fun c2 => ?_)
  · have hk := (if_pos c2).symm.trans hk
    refine j_iconst (pc' := 56) (v := 0) rfl rfl dX5_percentageOf_55 ?_
    obtain rfl := Option.some.inj hk
    exact j_iret rfl ⟨rfl, rfl⟩ dX5_percentageOf_56 hP
  · have hk := (if_neg c2).symm.trans hk
    refine j_iload_n (pc' := 45) rfl rfl dX5_percentageOf_44 ?_
    refine j_if_eq (pc' := 48) (tg := 55) rfl rfl dX5_percentageOf_45 (fun c1 => ?_) (fun c1 => ?_)
    · have hk := (if_pos c1).symm.trans hk
      refine j_iconst (pc' := 56) (v := 0) rfl rfl dX5_percentageOf_55 ?_
      obtain rfl := Option.some.inj hk
      exact j_iret rfl ⟨rfl, rfl⟩ dX5_percentageOf_56 hP
    · have hk := (if_neg c1).symm.trans hk
      refine j_aload_n (pc' := 49) rfl rfl dX5_percentageOf_48 ?_
      refine j_getf (pc' := 52) fg_RX5_22 (hp_e rfl) rfl rfl dX5_percentageOf_49 ?_
      refine j_goto (tg := 56) rfl dX5_percentageOf_52 ?_
      obtain rfl := Option.some.inj hk
      exact j_iret rfl ⟨rfl, rfl⟩ dX5_percentageOf_56 hP
theorem qU_percentageOf_j35 {σ : Mem} {x0 : Nat} {o1 : Option AV} {o2 : Option AV} {o3 : Option AV} {res : Int32 × Mem} (hk : kU_percentageOf_j35 σ x0 = some res) (hP : Po (some (vI res.1)) (hp res.2)) : J l D dA H0 YU_percentageOf h0 Po 0 0 (hp σ) 35 [some (vR (some (23, x0))), o1, o2, o3] [] := by
  unfold kU_percentageOf_j35 at hk
  refine j_iconst (pc' := 36) (v := 0) rfl rfl dX5_percentageOf_35 ?_
  exact qU_percentageOf_j36 hk hP
theorem qU_percentageOf_j31 {σ : Mem} {x0 : Nat} {o1 : Option AV} {o2 : Option AV} {o3 : Option AV} {res : Int32 × Mem} (hk : kU_percentageOf_j31 σ x0 = some res) (hP : Po (some (vI res.1)) (hp res.2)) : J l D dA H0 YU_percentageOf h0 Po 0 0 (hp σ) 31 [some (vR (some (23, x0))), o1, o2, o3] [] := by
  unfold kU_percentageOf_j31 at hk
  refine j_iconst (pc' := 32) (v := 1) rfl rfl dX5_percentageOf_31 ?_
  refine j_goto (tg := 36) rfl dX5_percentageOf_32 ?_
  exact qU_percentageOf_j36 hk hP
theorem qU_percentageOf_j15 {σ : Mem} {x0 : Nat} {x2 : Int32} {o1 : Option AV} {o3 : Option AV} {res : Int32 × Mem} (hk : kU_percentageOf_j15 σ x0 x2 = some res) (hP : Po (some (vI res.1)) (hp res.2)) : J l D dA H0 YU_percentageOf h0 Po 0 0 (hp σ) 15 [some (vR (some (23, x0))), o1, some (vI x2), o3] [] := by
  unfold kU_percentageOf_j15 at hk
  refine j_aload_n (pc' := 16) rfl rfl dX5_percentageOf_15 ?_
  refine j_getf (pc' := 19) fg_RX5_15 (hp_e rfl) rfl rfl dX5_percentageOf_16 ?_
  refine j_iconst (pc' := 20) (v := 1) rfl rfl dX5_percentageOf_19 ?_
  refine j_ic_ne (pc' := 23) (tg := 35) rfl rfl dX5_percentageOf_20 (fun c4 => ?_) (fun c4 => ?_)
  · have hk := (if_neg c4).symm.trans hk
    exact qU_percentageOf_j35 hk hP
  · have hk := (if_pos c4).symm.trans hk
    refine j_iload_n (pc' := 24) rfl rfl dX5_percentageOf_23 ?_
    refine j_aload_n (pc' := 25) rfl rfl dX5_percentageOf_24 ?_
    refine j_getf (pc' := 28) fg_RX5_19 (hp_e rfl) rfl rfl dX5_percentageOf_25 ?_
    refine j_ic_lt (pc' := 31) (tg := 35) rfl rfl dX5_percentageOf_28 (fun c3 => ?_) (fun c3 => ?_)
    · have hk := (if_pos c3).symm.trans hk
      exact qU_percentageOf_j35 hk hP
    · have hk := (if_neg c3).symm.trans hk
      exact qU_percentageOf_j31 hk hP
theorem qU_percentageOf {σ : Mem} {x0 : Nat} {x1 : Int32} {x2 : Int32} {o3 : Option AV} {res : Int32 × Mem} (hk : kU_percentageOf σ x0 x1 x2 = some res) (hP : Po (some (vI res.1)) (hp res.2)) : J l D dA H0 YU_percentageOf h0 Po 0 0 (hp σ) 0 [some (vR (some (23, x0))), some (vI x1), some (vI x2), o3] [] := by
  unfold kU_percentageOf at hk
  refine j_aload_n (pc' := 1) rfl rfl dX5_percentageOf_0 ?_
  refine j_getf (pc' := 4) fg_RX5_15 (hp_e rfl) rfl rfl dX5_percentageOf_1 ?_
  refine j_if_ne (pc' := 7) (tg := 15) rfl rfl dX5_percentageOf_4 (fun c6 => ?_) (fun c6 => ?_)
  · have hk := (if_neg c6).symm.trans hk
    exact qU_percentageOf_j15 hk hP
  · have hk := (if_pos c6).symm.trans hk
    refine j_iload_n (pc' := 8) rfl rfl dX5_percentageOf_7 ?_
    refine j_aload_n (pc' := 9) rfl rfl dX5_percentageOf_8 ?_
    refine j_getf (pc' := 12) fg_RX5_19 (hp_e rfl) rfl rfl dX5_percentageOf_9 ?_
    refine j_ic_ge (pc' := 15) (tg := 31) rfl rfl dX5_percentageOf_12 (fun c5 => ?_) (fun c5 => ?_)
    · have hk := (if_pos c5).symm.trans hk
      exact qU_percentageOf_j31 hk hP
    · have hk := (if_neg c5).symm.trans hk
      exact qU_percentageOf_j15 hk hP
theorem LU_percentageOf {σ σ' : Mem} {x0 : Nat} {x1 : Int32} {x2 : Int32} {r : Int32} (hk : kU_percentageOf σ x0 x1 x2 = some (r, σ')) : M l D dA H0 yX5_percentageOf YU_percentageOf [vR (some (23, x0)), vI x1, vI x2] (hp σ) (fun x h' => x = some (vI r) ∧ h' = hp σ') :=
  m_of (j := 1) (by decide) rfl (fun hh => by cases hh) ⟨fun _ _ => trivial, rfl⟩ (le_b rfl) (qU_percentageOf hk ⟨rfl, rfl⟩)
theorem qT_setAmount_s15 {σ : Mem} {x1 : Int32} {x3 : Int32} {x4 : Int32} {x5 : Int32} {o2 : Option AV} {out : (Int32 × Mem) ⊕ (Mem)} (hk : kT_setAmount_s15 x1 x3 x4 (x5, σ) = some out) (hc : ∀ (z5 : Int32) (ς : Mem), out = .inl (z5, ς) → ∀ (o2 : Option AV), J l D dA H0 YT_setAmount h0 Po 0 0 (hp ς) 15 [some (vR (some (14, 0))), some (vI x1), o2, some (vI x3), some (vI x4), some (vI z5)] []) (hx0 : ∀ (ς : Mem), out = .inr ς → ∀ (o0 o1 o2 o3 o4 o5 : Option AV), J l D dA H0 YT_setAmount h0 Po 0 0 (hp ς) 45 [o0, o1, o2, o3, o4, o5] []) : J l D dA H0 YT_setAmount h0 Po 0 0 (hp σ) 15 [some (vR (some (14, 0))), some (vI x1), o2, some (vI x3), some (vI x4), some (vI x5)] [] := by
  unfold kT_setAmount_s15 at hk
  refine j_iload (pc' := 17) rfl rfl dX6_setAmount_15 ?_
  refine j_iload_n (pc' := 18) rfl rfl dX6_setAmount_17 ?_
  refine j_ic_ge (pc' := 21) (tg := 45) rfl rfl dX6_setAmount_18 (fun c6 => ?_) (fun c6 => ?_)
  · have hk := (if_pos c6).symm.trans hk
    obtain rfl := Option.some.inj hk
    exact hx0 _ rfl _ _ _ _ _ _
  · have hk := (if_neg c6).symm.trans hk
    refine j_iload (pc' := 23) rfl rfl dX6_setAmount_21 ?_
    refine j_bipush (pc' := 25) (v := 60) rfl rfl dX6_setAmount_23 ?_
    refine j_ic_ge (pc' := 28) (tg := 45) rfl rfl dX6_setAmount_25 (fun c5 => ?_) (fun c5 => ?_)
    · have hk := (if_pos c5).symm.trans hk
      obtain rfl := Option.some.inj hk
      exact hx0 _ rfl _ _ _ _ _ _
    · have hk := (if_neg c5).symm.trans hk
      refine j_aload_n (pc' := 29) rfl rfl dX6_setAmount_28 ?_
      refine j_getf (pc' := 32) fg_RX6_11 (hp_e rfl) rfl rfl dX6_setAmount_29 ?_
      refine j_iload_n (pc' := 33) rfl rfl dX6_setAmount_32 ?_
      obtain ⟨g3, hk⟩ := of_ite hk
      refine j_grid (pc' := 34) (inR_in g3) rfl dX6_setAmount_33 ?_
      refine j_iload (pc' := 36) rfl rfl dX6_setAmount_34 ?_
      refine j_iload (pc' := 38) rfl rfl dX6_setAmount_36 ?_
      obtain ⟨g4, hk⟩ := of_ite hk
      refine j_si (pc' := 39) (fun _ _ _ => rfl) (inR_in g4) rfl dX6_setAmount_38 ?_
      refine j_iinc (pc' := 42) (v := x5 + 1) rfl rfl (lt_b rfl) rfl rfl dX6_setAmount_39 ?_
      refine j_goto (tg := 15) rfl dX6_setAmount_42 ?_
      obtain rfl := Option.some.inj hk
      exact hc _ _ rfl _
theorem lT_setAmount_s15 {x1 : Int32} {x3 : Int32} {x4 : Int32} : ∀ (n : Nat) (x5 : Int32) (σ : Mem) (e : (Mem)), loopF n (kT_setAmount_s15 x1 x3 x4) (x5, σ) = some e → (∀ (ς : Mem), e = ς → ∀ (o0 o1 o2 o3 o4 o5 : Option AV), J l D dA H0 YT_setAmount h0 Po 0 0 (hp ς) 45 [o0, o1, o2, o3, o4, o5] []) → ∀ (o2 : Option AV), J l D dA H0 YT_setAmount h0 Po 0 0 (hp σ) 15 [some (vR (some (14, 0))), some (vI x1), o2, some (vI x3), some (vI x4), some (vI x5)] []
  | 0, x5, σ, e, he => by cases he
  | n + 1, x5, σ, e, he => by
    intro hx0 o2
    rcases loopF_succ he with ⟨s', h1, h2⟩ | h1
    · refine qT_setAmount_s15 h1 ?_ ?_
      · intro z5 ς ee
        cases ee
        exact lT_setAmount_s15 n z5 ς e h2 hx0
      · intro ς ee
        cases ee
    · refine qT_setAmount_s15 h1 ?_ ?_
      · intro z5 ς ee
        cases ee
      · intro ς ee
        exact hx0 ς (Sum.inr.inj ee)
theorem qT_setAmount_x45 {σ : Mem} {o0 : Option AV} {o1 : Option AV} {o2 : Option AV} {o3 : Option AV} {o4 : Option AV} {o5 : Option AV} {res : Unit × Mem} (hk : kT_setAmount_x45 σ = some res) (hP : Po none (hp res.2)) : J l D dA H0 YT_setAmount h0 Po 0 0 (hp σ) 45 [o0, o1, o2, o3, o4, o5] [] := by
  unfold kT_setAmount_x45 at hk
  obtain rfl := Option.some.inj hk
  exact j_ret rfl ⟨rfl, rfl⟩ dX6_setAmount_45 hP
theorem qT_setAmount {σ : Mem} {x1 : Int32} {x2 : Int32} {x3 : Int32} {x4 : Int32} {o5 : Option AV} {res : Unit × Mem} (hk : kT_setAmount σ x1 x2 x3 x4 = some res) (hP : Po none (hp res.2)) : J l D dA H0 YT_setAmount h0 Po 0 0 (hp σ) 0 [some (vR (some (14, 0))), some (vI x1), some (vI x2), some (vI x3), some (vI x4), o5] [] := by
  unfold kT_setAmount at hk
  refine j_iload_n (pc' := 1) rfl rfl dX6_setAmount_0 ?_
  obtain ⟨⟨r1, σ2⟩, hx, hk⟩ := of_bind hk
  refine j_cs1 (pc' := 4) (LG_isWant hx) cs_RX6_30 ⟨le_b rfl, le_b rfl⟩ rfl (le_b rfl) ⟨rfl, rfl⟩ ⟨le_b rfl, le_b rfl⟩ rfl rfl dX6_setAmount_1 ?_
  refine j_if_ne (pc' := 7) (tg := 8) rfl rfl dX6_setAmount_4 (fun c7 => ?_) (fun c7 => ?_)
  · have hk := (if_neg c7).symm.trans hk
    refine j_iload_n (pc' := 9) rfl rfl dX6_setAmount_8 ?_
    refine j_iconst (pc' := 10) (v := 0) rfl rfl dX6_setAmount_9 ?_
    refine j_max (pc' := 13) ⟨gd_of (i := 390) (by decide +kernel) rfl, gd_of (i := 263) (by decide +kernel) rfl, gd_of (i := 50) (by decide +kernel) rfl, gd_of (i := 264) (by decide +kernel) rfl⟩ (le_b rfl) (le_b rfl) ⟨le_b rfl, le_b rfl⟩ rfl dX6_setAmount_10 ?_
    refine j_istore (pc' := 15) (lt_b rfl) rfl rfl dX6_setAmount_13 ?_
    obtain ⟨e, he, hk⟩ := of_bind hk
    refine lT_setAmount_s15 FU _ _ e he ?_ _
    · intro ς ee _ _ _ _ _ _
      subst ee
      exact qT_setAmount_x45 hk hP
  · have hk := (if_pos c7).symm.trans hk
    obtain rfl := Option.some.inj hk
    exact j_ret rfl ⟨rfl, rfl⟩ dX6_setAmount_7 hP
theorem LT_setAmount {σ σ' : Mem} {x1 : Int32} {x2 : Int32} {x3 : Int32} {x4 : Int32} {r : Unit} (hk : kT_setAmount σ x1 x2 x3 x4 = some (r, σ')) : M l D dA H0 yX6_setAmount YT_setAmount [vR (some (14, 0)), vI x1, vI x2, vI x3, vI x4] (hp σ) (fun x h' => x = none ∧ h' = hp σ') :=
  m_of (j := 1) (by decide) rfl (fun hh => by cases hh) ⟨fun _ _ => trivial, rfl⟩ (le_b rfl) (qT_setAmount hk ⟨rfl, rfl⟩)
theorem qT_isRule_j35 {σ : Mem} {x1 : Int32} {x2 : Int32} {y0 : Int32} {o0 : Option AV} {o3 : Option AV} {res : Int32 × Mem} (hk : kT_isRule_j35 σ x1 x2 y0 = some res) (hP : Po (some (vI res.1)) (hp res.2)) : J l D dA H0 YT_isRule h0 Po 0 0 (hp σ) 35 [o0, some (vI x1), some (vI x2), o3] [vI y0] := by
  unfold kT_isRule_j35 at hk
  refine j_istore_n (pc' := 36) (lt_b rfl) rfl rfl dX6_isRule_35 ?_
  refine j_iload_n (pc' := 37) rfl rfl dX6_isRule_36 ?_
  refine j_if_eq (pc' := 40) (tg := 68) rfl rfl dX6_isRule_37 (fun c5 => ?_) (fun c5 => ?_)
  · have hk := (if_pos c5).symm.trans hk
    refine j_iconst (pc' := 69) (v := 0) rfl rfl dX6_isRule_68 ?_
    obtain rfl := Option.some.inj hk
    exact j_zret rfl rfl ⟨rfl, rfl⟩ dX6_isRule_69 hP
  · have hk := (if_neg c5).symm.trans hk
    refine j_iload_n (pc' := 41) rfl rfl dX6_isRule_40 ?_
    refine j_iconst (pc' := 42) (v := 1) rfl rfl dX6_isRule_41 ?_
    refine j_ic_lt (pc' := 45) (tg := 68) rfl rfl dX6_isRule_42 (fun c4 => ?_) (fun c4 => ?_)
    · have hk := (if_pos c4).symm.trans hk
      refine j_iconst (pc' := 69) (v := 0) rfl rfl dX6_isRule_68 ?_
      obtain rfl := Option.some.inj hk
      exact j_zret rfl rfl ⟨rfl, rfl⟩ dX6_isRule_69 hP
    · have hk := (if_neg c4).symm.trans hk
      refine j_iload_n (pc' := 46) rfl rfl dX6_isRule_45 ?_
      refine j_bipush (pc' := 48) (v := 60) rfl rfl dX6_isRule_46 ?_
      refine j_ic_gt (pc' := 51) (tg := 68) rfl rfl dX6_isRule_48 (fun c3 => ?_) (fun c3 => ?_)
      · have hk := (if_pos c3).symm.trans hk
        refine j_iconst (pc' := 69) (v := 0) rfl rfl dX6_isRule_68 ?_
        obtain rfl := Option.some.inj hk
        exact j_zret rfl rfl ⟨rfl, rfl⟩ dX6_isRule_69 hP
      · have hk := (if_neg c3).symm.trans hk
        refine j_iload_n (pc' := 52) rfl rfl dX6_isRule_51 ?_
        refine j_bipush (pc' := 54) (v := (-100)) rfl rfl dX6_isRule_52 ?_
        refine j_ic_lt (pc' := 57) (tg := 68) rfl rfl dX6_isRule_54 (fun c2 => ?_) (fun c2 => ?_)
        · have hk := (if_pos c2).symm.trans hk
          refine j_iconst (pc' := 69) (v := 0) rfl rfl dX6_isRule_68 ?_
          obtain rfl := Option.some.inj hk
          exact j_zret rfl rfl ⟨rfl, rfl⟩ dX6_isRule_69 hP
        · have hk := (if_neg c2).symm.trans hk
          refine j_iload_n (pc' := 58) rfl rfl dX6_isRule_57 ?_
          refine j_sipush (pc' := 61) (v := 300) rfl rfl dX6_isRule_58 ?_
          refine j_ic_gt (pc' := 64) (tg := 68) rfl rfl dX6_isRule_61 (fun c1 => ?_) (fun c1 => ?_)
          · have hk := (if_pos c1).symm.trans hk
            refine j_iconst (pc' := 69) (v := 0) rfl rfl dX6_isRule_68 ?_
            obtain rfl := Option.some.inj hk
            exact j_zret rfl rfl ⟨rfl, rfl⟩ dX6_isRule_69 hP
          · have hk := (if_neg c1).symm.trans hk
            refine j_iconst (pc' := 65) (v := 1) rfl rfl dX6_isRule_64 ?_
            refine j_goto (tg := 69) rfl dX6_isRule_65 ?_
            obtain rfl := Option.some.inj hk
            exact j_zret rfl rfl ⟨rfl, rfl⟩ dX6_isRule_69 hP
theorem qT_isRule_j30 {σ : Mem} {x1 : Int32} {x2 : Int32} {o0 : Option AV} {o3 : Option AV} {res : Int32 × Mem} (hk : kT_isRule_j30 σ x1 x2 = some res) (hP : Po (some (vI res.1)) (hp res.2)) : J l D dA H0 YT_isRule h0 Po 0 0 (hp σ) 30 [o0, some (vI x1), some (vI x2), o3] [] := by
  unfold kT_isRule_j30 at hk
  refine j_iconst (pc' := 31) (v := 1) rfl rfl dX6_isRule_30 ?_
  refine j_goto (tg := 35) rfl dX6_isRule_31 ?_
  exact qT_isRule_j35 hk hP
theorem qT_isRule {σ : Mem} {x0 : Int32} {x1 : Int32} {x2 : Int32} {o3 : Option AV} {res : Int32 × Mem} (hk : kT_isRule σ x0 x1 x2 = some res) (hP : Po (some (vI res.1)) (hp res.2)) : J l D dA H0 YT_isRule h0 Po 0 0 (hp σ) 0 [some (vI x0), some (vI x1), some (vI x2), o3] [] := by
  unfold kT_isRule at hk
  refine j_iload_n (pc' := 1) rfl rfl dX6_isRule_0 ?_
  refine j_iconst (pc' := 2) (v := 2) rfl rfl dX6_isRule_1 ?_
  refine j_ic_ne (pc' := 5) (tg := 21) rfl rfl dX6_isRule_2 (fun c10 => ?_) (fun c10 => ?_)
  · have hk := (if_neg c10).symm.trans hk
    refine j_iload_n (pc' := 22) rfl rfl dX6_isRule_21 ?_
    refine j_if_eq (pc' := 25) (tg := 30) rfl rfl dX6_isRule_22 (fun c7 => ?_) (fun c7 => ?_)
    · have hk := (if_pos c7).symm.trans hk
      exact qT_isRule_j30 hk hP
    · have hk := (if_neg c7).symm.trans hk
      refine j_iload_n (pc' := 26) rfl rfl dX6_isRule_25 ?_
      refine j_iconst (pc' := 27) (v := 1) rfl rfl dX6_isRule_26 ?_
      refine j_ic_ne (pc' := 30) (tg := 34) rfl rfl dX6_isRule_27 (fun c6 => ?_) (fun c6 => ?_)
      · have hk := (if_neg c6).symm.trans hk
        refine j_iconst (pc' := 35) (v := 0) rfl rfl dX6_isRule_34 ?_
        exact qT_isRule_j35 hk hP
      · have hk := (if_pos c6).symm.trans hk
        exact qT_isRule_j30 hk hP
  · have hk := (if_pos c10).symm.trans hk
    refine j_iload_n (pc' := 6) rfl rfl dX6_isRule_5 ?_
    refine j_if_lt (pc' := 9) (tg := 19) rfl rfl dX6_isRule_6 (fun c9 => ?_) (fun c9 => ?_)
    · have hk := (if_pos c9).symm.trans hk
      refine j_iconst (pc' := 20) (v := 0) rfl rfl dX6_isRule_19 ?_
      obtain rfl := Option.some.inj hk
      exact j_zret rfl rfl ⟨rfl, rfl⟩ dX6_isRule_20 hP
    · have hk := (if_neg c9).symm.trans hk
      refine j_iload_n (pc' := 10) rfl rfl dX6_isRule_9 ?_
      refine j_bipush (pc' := 12) (v := 58) rfl rfl dX6_isRule_10 ?_
      refine j_ic_gt (pc' := 15) (tg := 19) rfl rfl dX6_isRule_12 (fun c8 => ?_) (fun c8 => ?_)
      · have hk := (if_pos c8).symm.trans hk
        refine j_iconst (pc' := 20) (v := 0) rfl rfl dX6_isRule_19 ?_
        obtain rfl := Option.some.inj hk
        exact j_zret rfl rfl ⟨rfl, rfl⟩ dX6_isRule_20 hP
      · have hk := (if_neg c8).symm.trans hk
        refine j_iconst (pc' := 16) (v := 1) rfl rfl dX6_isRule_15 ?_
        refine j_goto (tg := 20) rfl dX6_isRule_16 ?_
        obtain rfl := Option.some.inj hk
        exact j_zret rfl rfl ⟨rfl, rfl⟩ dX6_isRule_20 hP
theorem LT_isRule {σ σ' : Mem} {x0 : Int32} {x1 : Int32} {x2 : Int32} {r : Int32} (hk : kT_isRule σ x0 x1 x2 = some (r, σ')) : M l D dA H0 yX6_isRule YT_isRule [vI x0, vI x1, vI x2] (hp σ) (fun x h' => x = some (vI r) ∧ h' = hp σ') :=
  m_of (j := 1) (by decide) rfl (fun hh => by cases hh) ⟨fun _ _ => trivial, rfl⟩ (le_b rfl) (qT_isRule hk ⟨rfl, rfl⟩)
theorem qT_addRule {σ : Mem} {x1 : Int32} {x2 : Int32} {x3 : Int32} {res : Int32 × Mem} (hk : kT_addRule σ x1 x2 x3 = some res) (hP : Po (some (vI res.1)) (hp res.2)) : J l D dA H0 YT_addRule h0 Po 0 0 (hp σ) 0 [some (vR (some (14, 0))), some (vI x1), some (vI x2), some (vI x3)] [] := by
  unfold kT_addRule at hk
  refine j_aload_n (pc' := 1) rfl rfl dX6_addRule_0 ?_
  refine j_getf (pc' := 4) fg_RX6_40 (hp_e rfl) rfl rfl dX6_addRule_1 ?_
  refine j_if_lt (pc' := 7) (tg := 25) rfl rfl dX6_addRule_4 (fun c9 => ?_) (fun c9 => ?_)
  · have hk := (if_pos c9).symm.trans hk
    refine j_iconst (pc' := 26) (v := (-1)) rfl rfl dX6_addRule_25 ?_
    obtain rfl := Option.some.inj hk
    refine j_wide (k' := 1) (n' := 4) (le_b rfl) (le_b rfl) ?_
    exact j_iret rfl ⟨rfl, rfl⟩ dX6_addRule_26 hP
  · have hk := (if_neg c9).symm.trans hk
    refine j_aload_n (pc' := 8) rfl rfl dX6_addRule_7 ?_
    refine j_getf (pc' := 11) fg_RX6_40 (hp_e rfl) rfl rfl dX6_addRule_8 ?_
    refine j_bipush (pc' := 13) (v := 8) rfl rfl dX6_addRule_11 ?_
    refine j_ic_ge (pc' := 16) (tg := 25) rfl rfl dX6_addRule_13 (fun c8 => ?_) (fun c8 => ?_)
    · have hk := (if_pos c8).symm.trans hk
      refine j_iconst (pc' := 26) (v := (-1)) rfl rfl dX6_addRule_25 ?_
      obtain rfl := Option.some.inj hk
      refine j_wide (k' := 1) (n' := 4) (le_b rfl) (le_b rfl) ?_
      exact j_iret rfl ⟨rfl, rfl⟩ dX6_addRule_26 hP
    · have hk := (if_neg c8).symm.trans hk
      refine j_iload_n (pc' := 17) rfl rfl dX6_addRule_16 ?_
      refine j_iload_n (pc' := 18) rfl rfl dX6_addRule_17 ?_
      refine j_iload_n (pc' := 19) rfl rfl dX6_addRule_18 ?_
      obtain ⟨⟨r1, σ2⟩, hx, hk⟩ := of_bind hk
      refine j_cs1 (pc' := 22) (LT_isRule hx) cs_RX6_44 ⟨le_b rfl, le_b rfl⟩ rfl (le_b rfl) ⟨rfl, rfl⟩ ⟨le_b rfl, le_b rfl⟩ rfl rfl dX6_addRule_19 ?_
      refine j_if_ne (pc' := 25) (tg := 27) rfl rfl dX6_addRule_22 (fun c7 => ?_) (fun c7 => ?_)
      · have hk := (if_neg c7).symm.trans hk
        refine j_aload_n (pc' := 28) rfl rfl dX6_addRule_27 ?_
        refine j_getf (pc' := 31) fg_RX6_18 (hp_e rfl) rfl rfl dX6_addRule_28 ?_
        refine j_aload_n (pc' := 32) rfl rfl dX6_addRule_31 ?_
        refine j_getf (pc' := 35) fg_RX6_40 (hp_e rfl) rfl rfl dX6_addRule_32 ?_
        obtain ⟨g3, hk⟩ := of_ite hk
        refine j_new (pc' := 38) (23, ix (mI σ2 14 0 2)) (c := 5) (fs := [vI 0, vI 0, vI 0, vI 0]) (hp_no g3) rfl gdX5 tyX5 tyX5_ok ⟨gd_of (i := 158) (by decide +kernel) rfl, gd_of (i := 700) (by decide +kernel) rfl, gd_of (i := 59) (by decide +kernel) rfl⟩ (by decide) (fun _ => by simp [okE, okV]) ⟨le_b rfl, le_b rfl⟩ rfl dX6_addRule_35 ?_
        refine j_dup (pc' := 39) rfl rfl dX6_addRule_38 ?_
        refine j_iload_n (pc' := 40) rfl rfl dX6_addRule_39 ?_
        refine j_iload_n (pc' := 41) rfl rfl dX6_addRule_40 ?_
        refine j_iload_n (pc' := 42) rfl rfl dX6_addRule_41 ?_
        obtain ⟨⟨_, σ5⟩, hx, hk⟩ := of_bind hk
        refine j_callI (pc' := 45) (LU_init hx) ci_RX6_48 ⟨le_b rfl, le_b rfl⟩ rfl (le_b rfl) ⟨le_b rfl, le_b rfl⟩ rfl rfl dX6_addRule_42 (fun _ _ hPq => ?_)
        obtain ⟨rfl, rfl⟩ := hPq
        obtain ⟨g6, hk⟩ := of_ite hk
        refine j_sr (pc' := 46) (le_b rfl) rfl (fun _ _ _ => rfl) rfl rfl (inR_in g6) rfl dX6_addRule_45 ?_
        refine j_aload_n (pc' := 47) rfl rfl dX6_addRule_46 ?_
        refine j_dup (pc' := 48) rfl rfl dX6_addRule_47 ?_
        refine j_getf (pc' := 51) fg_RX6_40 (hp_e rfl) rfl rfl dX6_addRule_48 ?_
        refine j_iconst (pc' := 52) (v := 1) rfl rfl dX6_addRule_51 ?_
        refine j_iadd (pc' := 53) rfl dX6_addRule_52 ?_
        refine j_pi (pc' := 56) (ty := .int) fg_RX6_40 ttX6 rfl rfl ⟨rfl, rfl⟩ rfl (lt_b rfl) rfl rfl dX6_addRule_53 ?_
        refine j_aload_n (pc' := 57) rfl rfl dX6_addRule_56 ?_
        refine j_getf (pc' := 60) fg_RX6_40 (hp_e rfl) rfl rfl dX6_addRule_57 ?_
        refine j_iconst (pc' := 61) (v := 1) rfl rfl dX6_addRule_60 ?_
        refine j_isub (pc' := 62) rfl dX6_addRule_61 ?_
        obtain rfl := Option.some.inj hk
        refine j_wide (k' := 1) (n' := 4) (le_b rfl) (le_b rfl) ?_
        exact j_iret rfl ⟨rfl, rfl⟩ dX6_addRule_62 hP
      · have hk := (if_pos c7).symm.trans hk
        refine j_iconst (pc' := 26) (v := (-1)) rfl rfl dX6_addRule_25 ?_
        obtain rfl := Option.some.inj hk
        refine j_wide (k' := 1) (n' := 4) (le_b rfl) (le_b rfl) ?_
        exact j_iret rfl ⟨rfl, rfl⟩ dX6_addRule_26 hP
theorem LT_addRule {σ σ' : Mem} {x1 : Int32} {x2 : Int32} {x3 : Int32} {r : Int32} (hk : kT_addRule σ x1 x2 x3 = some (r, σ')) : M l D dA H0 yX6_addRule YT_addRule [vR (some (14, 0)), vI x1, vI x2, vI x3] (hp σ) (fun x h' => x = some (vI r) ∧ h' = hp σ') :=
  m_of (j := 0) (by decide) rfl (fun hh => by cases hh) ⟨fun _ _ => trivial, rfl⟩ (le_b rfl) (qT_addRule hk ⟨rfl, rfl⟩)
theorem qT_endRule_j20 {σ : Mem} {y0 : Option Nat} {o0 : Option AV} {o1 : Option AV} {o2 : Option AV} {res : Int32 × Mem} (hk : kT_endRule_j20 σ y0 = some res) (hP : Po (some (vI res.1)) (hp res.2)) : J l D dA H0 YT_endRule h0 Po 0 0 (hp σ) 20 [o0, o1, o2] [vR (y0.map (Prod.mk 23))] := by
  unfold kT_endRule_j20 at hk
  refine j_astore_n (pc' := 21) (lt_b rfl) rfl rfl dX6_endRule_20 ?_
  refine j_aload_n (pc' := 22) rfl rfl dX6_endRule_21 ?_
  rcases of_elim hk with ⟨hr, hk⟩ | ⟨j1, hr, hk⟩
  · subst hr
    refine j_ifnull (pc' := 25) (tg := 32) rfl rfl dX6_endRule_22 (fun _ => ?_) (fun _ hh => by cases hh)
    refine j_iconst (pc' := 33) (v := 0) rfl rfl dX6_endRule_32 ?_
    obtain rfl := Option.some.inj hk
    exact j_zret rfl rfl ⟨rfl, rfl⟩ dX6_endRule_33 hP
  · subst hr
    refine j_ifnull (pc' := 25) (tg := 32) rfl rfl dX6_endRule_22 (fun hh => by cases hh) (fun _ _ => ?_)
    refine j_aload_n (pc' := 26) rfl rfl dX6_endRule_25 ?_
    refine j_getf (pc' := 29) fg_RX6_51 (hp_e rfl) rfl rfl dX6_endRule_26 ?_
    refine j_if_ne (pc' := 32) (tg := 34) rfl rfl dX6_endRule_29 (fun c2 => ?_) (fun c2 => ?_)
    · have hk := (if_neg c2).symm.trans hk
      refine j_aload_n (pc' := 35) rfl rfl dX6_endRule_34 ?_
      refine j_iconst (pc' := 36) (v := 0) rfl rfl dX6_endRule_35 ?_
      refine j_pi (pc' := 39) (ty := .boolean) fg_RX6_51 ttX5 rfl rfl ⟨rfl, rfl⟩ rfl (lt_b rfl) rfl rfl dX6_endRule_36 ?_
      refine j_iconst (pc' := 40) (v := 1) rfl rfl dX6_endRule_39 ?_
      obtain rfl := Option.some.inj hk
      exact j_zret rfl rfl ⟨rfl, rfl⟩ dX6_endRule_40 hP
    · have hk := (if_pos c2).symm.trans hk
      refine j_iconst (pc' := 33) (v := 0) rfl rfl dX6_endRule_32 ?_
      obtain rfl := Option.some.inj hk
      exact j_zret rfl rfl ⟨rfl, rfl⟩ dX6_endRule_33 hP
theorem qT_endRule_j19 {σ : Mem} {o0 : Option AV} {o1 : Option AV} {o2 : Option AV} {res : Int32 × Mem} (hk : kT_endRule_j19 σ = some res) (hP : Po (some (vI res.1)) (hp res.2)) : J l D dA H0 YT_endRule h0 Po 0 0 (hp σ) 19 [o0, o1, o2] [] := by
  unfold kT_endRule_j19 at hk
  refine j_null (pc' := 20) rfl dX6_endRule_19 ?_
  exact qT_endRule_j20 hk hP
theorem qT_endRule {σ : Mem} {x1 : Int32} {o2 : Option AV} {res : Int32 × Mem} (hk : kT_endRule σ x1 = some res) (hP : Po (some (vI res.1)) (hp res.2)) : J l D dA H0 YT_endRule h0 Po 0 0 (hp σ) 0 [some (vR (some (14, 0))), some (vI x1), o2] [] := by
  unfold kT_endRule at hk
  refine j_iload_n (pc' := 1) rfl rfl dX6_endRule_0 ?_
  refine j_if_lt (pc' := 4) (tg := 19) rfl rfl dX6_endRule_1 (fun c6 => ?_) (fun c6 => ?_)
  · have hk := (if_pos c6).symm.trans hk
    exact qT_endRule_j19 hk hP
  · have hk := (if_neg c6).symm.trans hk
    refine j_iload_n (pc' := 5) rfl rfl dX6_endRule_4 ?_
    refine j_bipush (pc' := 7) (v := 8) rfl rfl dX6_endRule_5 ?_
    refine j_ic_ge (pc' := 10) (tg := 19) rfl rfl dX6_endRule_7 (fun c5 => ?_) (fun c5 => ?_)
    · have hk := (if_pos c5).symm.trans hk
      exact qT_endRule_j19 hk hP
    · have hk := (if_neg c5).symm.trans hk
      refine j_aload_n (pc' := 11) rfl rfl dX6_endRule_10 ?_
      refine j_getf (pc' := 14) fg_RX6_18 (hp_e rfl) rfl rfl dX6_endRule_11 ?_
      refine j_iload_n (pc' := 15) rfl rfl dX6_endRule_14 ?_
      obtain ⟨g3, hk⟩ := of_ite hk
      refine j_aald (pc' := 16) ⟨le_b rfl, lt_b rfl⟩ (hp_e rfl) (inR_in g3) rfl dX6_endRule_15 ?_
      rcases of_elim hk with ⟨hr, hk⟩ | ⟨j4, hr, hk⟩
      · refine j_top (v' := vR none) (congrArg (fun o => vR (Option.map (Prod.mk 23) o)) hr) ?_
        refine j_goto (tg := 20) rfl dX6_endRule_16 ?_
        exact qT_endRule_j20 hk hP
      · refine j_top (v' := vR (some (23, j4))) (congrArg (fun o => vR (Option.map (Prod.mk 23) o)) hr) ?_
        refine j_goto (tg := 20) rfl dX6_endRule_16 ?_
        exact qT_endRule_j20 hk hP
theorem LT_endRule {σ σ' : Mem} {x1 : Int32} {r : Int32} (hk : kT_endRule σ x1 = some (r, σ')) : M l D dA H0 yX6_endRule YT_endRule [vR (some (14, 0)), vI x1] (hp σ) (fun x h' => x = some (vI r) ∧ h' = hp σ') :=
  m_of (j := 1) (by decide) rfl (fun hh => by cases hh) ⟨fun _ _ => trivial, rfl⟩ (le_b rfl) (qT_endRule hk ⟨rfl, rfl⟩)
theorem qT_heldRules_s4 {σ : Mem} {x1 : Int32} {x2 : Int32} {o3 : Option AV} {out : (Int32 × Int32 × Mem) ⊕ (Int32 × Mem)} (hk : kT_heldRules_s4 (x1, x2, σ) = some out) (hc : ∀ (z1 : Int32) (z2 : Int32) (ς : Mem), out = .inl (z1, z2, ς) → ∀ (o3 : Option AV), J l D dA H0 YT_heldRules h0 Po 0 0 (hp ς) 4 [some (vR (some (14, 0))), some (vI z1), some (vI z2), o3] []) (hx0 : ∀ (z1 : Int32) (ς : Mem), out = .inr (z1, ς) → ∀ (o0 o2 o3 : Option AV), J l D dA H0 YT_heldRules h0 Po 0 0 (hp ς) 50 [o0, some (vI z1), o2, o3] []) : J l D dA H0 YT_heldRules h0 Po 0 0 (hp σ) 4 [some (vR (some (14, 0))), some (vI x1), some (vI x2), o3] [] := by
  unfold kT_heldRules_s4 at hk
  refine j_iload_n (pc' := 5) rfl rfl dX6_heldRules_4 ?_
  refine j_aload_n (pc' := 6) rfl rfl dX6_heldRules_5 ?_
  refine j_getf (pc' := 9) fg_RX6_40 (hp_e rfl) rfl rfl dX6_heldRules_6 ?_
  refine j_ic_ge (pc' := 12) (tg := 50) rfl rfl dX6_heldRules_9 (fun c5 => ?_) (fun c5 => ?_)
  · have hk := (if_pos c5).symm.trans hk
    obtain rfl := Option.some.inj hk
    exact hx0 _ _ rfl _ _ _
  · have hk := (if_neg c5).symm.trans hk
    refine j_iload_n (pc' := 13) rfl rfl dX6_heldRules_12 ?_
    refine j_bipush (pc' := 15) (v := 8) rfl rfl dX6_heldRules_13 ?_
    refine j_ic_ge (pc' := 18) (tg := 50) rfl rfl dX6_heldRules_15 (fun c4 => ?_) (fun c4 => ?_)
    · have hk := (if_pos c4).symm.trans hk
      obtain rfl := Option.some.inj hk
      exact hx0 _ _ rfl _ _ _
    · have hk := (if_neg c4).symm.trans hk
      refine j_aload_n (pc' := 19) rfl rfl dX6_heldRules_18 ?_
      refine j_getf (pc' := 22) fg_RX6_18 (hp_e rfl) rfl rfl dX6_heldRules_19 ?_
      refine j_iload_n (pc' := 23) rfl rfl dX6_heldRules_22 ?_
      obtain ⟨g1, hk⟩ := of_ite hk
      refine j_aald (pc' := 24) ⟨le_b rfl, lt_b rfl⟩ (hp_e rfl) (inR_in g1) rfl dX6_heldRules_23 ?_
      rcases of_elim hk with ⟨hr, hk⟩ | ⟨j2, hr, hk⟩
      · refine j_top (v' := vR none) (congrArg (fun o => vR (Option.map (Prod.mk 23) o)) hr) ?_
        refine j_astore_n (pc' := 25) (lt_b rfl) rfl rfl dX6_heldRules_24 ?_
        refine j_iload_n (pc' := 26) rfl rfl dX6_heldRules_25 ?_
        refine j_aload_n (pc' := 27) rfl rfl dX6_heldRules_26 ?_
        refine j_ifnull (pc' := 30) (tg := 41) rfl rfl dX6_heldRules_27 (fun _ => ?_) (fun _ hh => by cases hh)
        refine j_iconst (pc' := 42) (v := 0) rfl rfl dX6_heldRules_41 ?_
        refine j_iadd (pc' := 43) rfl dX6_heldRules_42 ?_
        refine j_istore_n (pc' := 44) (lt_b rfl) rfl rfl dX6_heldRules_43 ?_
        refine j_iinc (pc' := 47) (v := x2 + 1) rfl rfl (lt_b rfl) rfl rfl dX6_heldRules_44 ?_
        refine j_goto (tg := 4) rfl dX6_heldRules_47 ?_
        obtain rfl := Option.some.inj hk
        exact hc _ _ _ rfl _
      · refine j_top (v' := vR (some (23, j2))) (congrArg (fun o => vR (Option.map (Prod.mk 23) o)) hr) ?_
        refine j_astore_n (pc' := 25) (lt_b rfl) rfl rfl dX6_heldRules_24 ?_
        refine j_iload_n (pc' := 26) rfl rfl dX6_heldRules_25 ?_
        refine j_aload_n (pc' := 27) rfl rfl dX6_heldRules_26 ?_
        refine j_ifnull (pc' := 30) (tg := 41) rfl rfl dX6_heldRules_27 (fun hh => by cases hh) (fun _ _ => ?_)
        refine j_aload_n (pc' := 31) rfl rfl dX6_heldRules_30 ?_
        refine j_getf (pc' := 34) fg_RX6_51 (hp_e rfl) rfl rfl dX6_heldRules_31 ?_
        refine j_if_eq (pc' := 37) (tg := 41) rfl rfl dX6_heldRules_34 (fun c3 => ?_) (fun c3 => ?_)
        · have hk := (if_pos c3).symm.trans hk
          refine j_iconst (pc' := 42) (v := 0) rfl rfl dX6_heldRules_41 ?_
          refine j_iadd (pc' := 43) rfl dX6_heldRules_42 ?_
          refine j_istore_n (pc' := 44) (lt_b rfl) rfl rfl dX6_heldRules_43 ?_
          refine j_iinc (pc' := 47) (v := x2 + 1) rfl rfl (lt_b rfl) rfl rfl dX6_heldRules_44 ?_
          refine j_goto (tg := 4) rfl dX6_heldRules_47 ?_
          obtain rfl := Option.some.inj hk
          exact hc _ _ _ rfl _
        · have hk := (if_neg c3).symm.trans hk
          refine j_iconst (pc' := 38) (v := 1) rfl rfl dX6_heldRules_37 ?_
          refine j_goto (tg := 42) rfl dX6_heldRules_38 ?_
          refine j_iadd (pc' := 43) rfl dX6_heldRules_42 ?_
          refine j_istore_n (pc' := 44) (lt_b rfl) rfl rfl dX6_heldRules_43 ?_
          refine j_iinc (pc' := 47) (v := x2 + 1) rfl rfl (lt_b rfl) rfl rfl dX6_heldRules_44 ?_
          refine j_goto (tg := 4) rfl dX6_heldRules_47 ?_
          obtain rfl := Option.some.inj hk
          exact hc _ _ _ rfl _
theorem lT_heldRules_s4 : ∀ (n : Nat) (x1 : Int32) (x2 : Int32) (σ : Mem) (e : (Int32 × Mem)), loopF n (kT_heldRules_s4) (x1, x2, σ) = some e → (∀ (z1 : Int32) (ς : Mem), e = (z1, ς) → ∀ (o0 o2 o3 : Option AV), J l D dA H0 YT_heldRules h0 Po 0 0 (hp ς) 50 [o0, some (vI z1), o2, o3] []) → ∀ (o3 : Option AV), J l D dA H0 YT_heldRules h0 Po 0 0 (hp σ) 4 [some (vR (some (14, 0))), some (vI x1), some (vI x2), o3] []
  | 0, x1, x2, σ, e, he => by cases he
  | n + 1, x1, x2, σ, e, he => by
    intro hx0 o3
    rcases loopF_succ he with ⟨s', h1, h2⟩ | h1
    · refine qT_heldRules_s4 h1 ?_ ?_
      · intro z1 z2 ς ee
        cases ee
        exact lT_heldRules_s4 n z1 z2 ς e h2 hx0
      · intro z1 ς ee
        cases ee
    · refine qT_heldRules_s4 h1 ?_ ?_
      · intro z1 z2 ς ee
        cases ee
      · intro z1 ς ee
        exact hx0 z1 ς (Sum.inr.inj ee)
theorem qT_heldRules_x50 {σ : Mem} {x1 : Int32} {o0 : Option AV} {o2 : Option AV} {o3 : Option AV} {res : Int32 × Mem} (hk : kT_heldRules_x50 σ x1 = some res) (hP : Po (some (vI res.1)) (hp res.2)) : J l D dA H0 YT_heldRules h0 Po 0 0 (hp σ) 50 [o0, some (vI x1), o2, o3] [] := by
  unfold kT_heldRules_x50 at hk
  refine j_iload_n (pc' := 51) rfl rfl dX6_heldRules_50 ?_
  obtain rfl := Option.some.inj hk
  exact j_iret rfl ⟨rfl, rfl⟩ dX6_heldRules_51 hP
theorem qT_heldRules {σ : Mem} {o1 : Option AV} {o2 : Option AV} {o3 : Option AV} {res : Int32 × Mem} (hk : kT_heldRules σ = some res) (hP : Po (some (vI res.1)) (hp res.2)) : J l D dA H0 YT_heldRules h0 Po 0 0 (hp σ) 0 [some (vR (some (14, 0))), o1, o2, o3] [] := by
  unfold kT_heldRules at hk
  refine j_iconst (pc' := 1) (v := 0) rfl rfl dX6_heldRules_0 ?_
  refine j_istore_n (pc' := 2) (lt_b rfl) rfl rfl dX6_heldRules_1 ?_
  refine j_iconst (pc' := 3) (v := 0) rfl rfl dX6_heldRules_2 ?_
  refine j_istore_n (pc' := 4) (lt_b rfl) rfl rfl dX6_heldRules_3 ?_
  obtain ⟨e, he, hk⟩ := of_bind hk
  refine lT_heldRules_s4 FU _ _ _ e he ?_ _
  · intro z1 ς ee _ _ _
    subst ee
    exact qT_heldRules_x50 hk hP
theorem LT_heldRules {σ σ' : Mem} {r : Int32} (hk : kT_heldRules σ = some (r, σ')) : M l D dA H0 yX6_heldRules YT_heldRules [vR (some (14, 0))] (hp σ) (fun x h' => x = some (vI r) ∧ h' = hp σ') :=
  m_of (j := 3) (by decide) rfl (fun hh => by cases hh) ⟨fun _ _ => trivial, rfl⟩ (le_b rfl) (qT_heldRules hk ⟨rfl, rfl⟩)
theorem qT_mayEnd_s2 {σ : Mem} {x1 : Int32} {x2 : Int32} {o3 : Option AV} {out : (Int32 × Mem) ⊕ ((Mem) ⊕ (Mem))} (hk : kT_mayEnd_s2 x1 (x2, σ) = some out) (hc : ∀ (z2 : Int32) (ς : Mem), out = .inl (z2, ς) → ∀ (o3 : Option AV), J l D dA H0 YT_mayEnd h0 Po 0 0 (hp ς) 2 [some (vR (some (14, 0))), some (vI x1), some (vI z2), o3] []) (hx0 : ∀ (ς : Mem), out = .inr (.inl ς) → ∀ (o0 o1 o2 o3 : Option AV), J l D dA H0 YT_mayEnd h0 Po 0 0 (hp ς) 35 [o0, o1, o2, o3] []) (hx1 : ∀ (ς : Mem), out = .inr (.inr ς) → ∀ (o0 o1 o2 o3 : Option AV), J l D dA H0 YT_mayEnd h0 Po 0 0 (hp ς) 43 [o0, o1, o2, o3] []) : J l D dA H0 YT_mayEnd h0 Po 0 0 (hp σ) 2 [some (vR (some (14, 0))), some (vI x1), some (vI x2), o3] [] := by
  unfold kT_mayEnd_s2 at hk
  refine j_iload_n (pc' := 3) rfl rfl dX6_mayEnd_2 ?_
  refine j_aload_n (pc' := 4) rfl rfl dX6_mayEnd_3 ?_
  refine j_getf (pc' := 7) fg_RX6_40 (hp_e rfl) rfl rfl dX6_mayEnd_4 ?_
  refine j_ic_ge (pc' := 10) (tg := 43) rfl rfl dX6_mayEnd_7 (fun c7 => ?_) (fun c7 => ?_)
  · have hk := (if_pos c7).symm.trans hk
    obtain rfl := Option.some.inj hk
    exact hx1 _ rfl _ _ _ _
  · have hk := (if_neg c7).symm.trans hk
    refine j_iload_n (pc' := 11) rfl rfl dX6_mayEnd_10 ?_
    refine j_bipush (pc' := 13) (v := 8) rfl rfl dX6_mayEnd_11 ?_
    refine j_ic_ge (pc' := 16) (tg := 43) rfl rfl dX6_mayEnd_13 (fun c6 => ?_) (fun c6 => ?_)
    · have hk := (if_pos c6).symm.trans hk
      obtain rfl := Option.some.inj hk
      exact hx1 _ rfl _ _ _ _
    · have hk := (if_neg c6).symm.trans hk
      refine j_aload_n (pc' := 17) rfl rfl dX6_mayEnd_16 ?_
      refine j_getf (pc' := 20) fg_RX6_18 (hp_e rfl) rfl rfl dX6_mayEnd_17 ?_
      refine j_iload_n (pc' := 21) rfl rfl dX6_mayEnd_20 ?_
      obtain ⟨g1, hk⟩ := of_ite hk
      refine j_aald (pc' := 22) ⟨le_b rfl, lt_b rfl⟩ (hp_e rfl) (inR_in g1) rfl dX6_mayEnd_21 ?_
      rcases of_elim hk with ⟨hr, hk⟩ | ⟨j2, hr, hk⟩
      · refine j_top (v' := vR none) (congrArg (fun o => vR (Option.map (Prod.mk 23) o)) hr) ?_
        refine j_astore_n (pc' := 23) (lt_b rfl) rfl rfl dX6_mayEnd_22 ?_
        refine j_aload_n (pc' := 24) rfl rfl dX6_mayEnd_23 ?_
        refine j_ifnull (pc' := 27) (tg := 37) rfl rfl dX6_mayEnd_24 (fun _ => ?_) (fun _ hh => by cases hh)
        refine j_iinc (pc' := 40) (v := x2 + 1) rfl rfl (lt_b rfl) rfl rfl dX6_mayEnd_37 ?_
        refine j_goto (tg := 2) rfl dX6_mayEnd_40 ?_
        obtain rfl := Option.some.inj hk
        exact hc _ _ rfl _
      · refine j_top (v' := vR (some (23, j2))) (congrArg (fun o => vR (Option.map (Prod.mk 23) o)) hr) ?_
        refine j_astore_n (pc' := 23) (lt_b rfl) rfl rfl dX6_mayEnd_22 ?_
        refine j_aload_n (pc' := 24) rfl rfl dX6_mayEnd_23 ?_
        refine j_ifnull (pc' := 27) (tg := 37) rfl rfl dX6_mayEnd_24 (fun hh => by cases hh) (fun _ _ => ?_)
        refine j_aload_n (pc' := 28) rfl rfl dX6_mayEnd_27 ?_
        refine j_iload_n (pc' := 29) rfl rfl dX6_mayEnd_28 ?_
        obtain ⟨⟨r3, σ4⟩, hx, hk⟩ := of_bind hk
        refine j_cv1 (pc' := 32) (LU_forbidsEnd hx) cv_RX6_55 ⟨le_b rfl, le_b rfl⟩ (hp_e rfl) rfl rfl (le_b rfl) ⟨rfl, rfl⟩ ⟨le_b rfl, le_b rfl⟩ rfl rfl dX6_mayEnd_29 ?_
        refine j_if_eq (pc' := 35) (tg := 37) rfl rfl dX6_mayEnd_32 (fun c5 => ?_) (fun c5 => ?_)
        · have hk := (if_pos c5).symm.trans hk
          refine j_iinc (pc' := 40) (v := x2 + 1) rfl rfl (lt_b rfl) rfl rfl dX6_mayEnd_37 ?_
          refine j_goto (tg := 2) rfl dX6_mayEnd_40 ?_
          obtain rfl := Option.some.inj hk
          exact hc _ _ rfl _
        · have hk := (if_neg c5).symm.trans hk
          obtain rfl := Option.some.inj hk
          exact hx0 _ rfl _ _ _ _
theorem lT_mayEnd_s2 {x1 : Int32} : ∀ (n : Nat) (x2 : Int32) (σ : Mem) (e : ((Mem) ⊕ (Mem))), loopF n (kT_mayEnd_s2 x1) (x2, σ) = some e → (∀ (ς : Mem), e = (.inl ς) → ∀ (o0 o1 o2 o3 : Option AV), J l D dA H0 YT_mayEnd h0 Po 0 0 (hp ς) 35 [o0, o1, o2, o3] []) → (∀ (ς : Mem), e = (.inr ς) → ∀ (o0 o1 o2 o3 : Option AV), J l D dA H0 YT_mayEnd h0 Po 0 0 (hp ς) 43 [o0, o1, o2, o3] []) → ∀ (o3 : Option AV), J l D dA H0 YT_mayEnd h0 Po 0 0 (hp σ) 2 [some (vR (some (14, 0))), some (vI x1), some (vI x2), o3] []
  | 0, x2, σ, e, he => by cases he
  | n + 1, x2, σ, e, he => by
    intro hx0 hx1 o3
    rcases loopF_succ he with ⟨s', h1, h2⟩ | h1
    · refine qT_mayEnd_s2 h1 ?_ ?_ ?_
      · intro z2 ς ee
        cases ee
        exact lT_mayEnd_s2 n z2 ς e h2 hx0 hx1
      · intro ς ee
        cases ee
      · intro ς ee
        cases ee
    · refine qT_mayEnd_s2 h1 ?_ ?_ ?_
      · intro z2 ς ee
        cases ee
      · intro ς ee
        exact hx0 ς (Sum.inr.inj ee)
      · intro ς ee
        exact hx1 ς (Sum.inr.inj ee)
theorem qT_mayEnd_x35 {σ : Mem} {o0 : Option AV} {o1 : Option AV} {o2 : Option AV} {o3 : Option AV} {res : Int32 × Mem} (hk : kT_mayEnd_x35 σ = some res) (hP : Po (some (vI res.1)) (hp res.2)) : J l D dA H0 YT_mayEnd h0 Po 0 0 (hp σ) 35 [o0, o1, o2, o3] [] := by
  unfold kT_mayEnd_x35 at hk
  refine j_iconst (pc' := 36) (v := 0) rfl rfl dX6_mayEnd_35 ?_
  obtain rfl := Option.some.inj hk
  exact j_zret rfl rfl ⟨rfl, rfl⟩ dX6_mayEnd_36 hP
theorem qT_mayEnd_x43 {σ : Mem} {o0 : Option AV} {o1 : Option AV} {o2 : Option AV} {o3 : Option AV} {res : Int32 × Mem} (hk : kT_mayEnd_x43 σ = some res) (hP : Po (some (vI res.1)) (hp res.2)) : J l D dA H0 YT_mayEnd h0 Po 0 0 (hp σ) 43 [o0, o1, o2, o3] [] := by
  unfold kT_mayEnd_x43 at hk
  refine j_iconst (pc' := 44) (v := 1) rfl rfl dX6_mayEnd_43 ?_
  obtain rfl := Option.some.inj hk
  exact j_zret rfl rfl ⟨rfl, rfl⟩ dX6_mayEnd_44 hP
theorem qT_mayEnd {σ : Mem} {x1 : Int32} {o2 : Option AV} {o3 : Option AV} {res : Int32 × Mem} (hk : kT_mayEnd σ x1 = some res) (hP : Po (some (vI res.1)) (hp res.2)) : J l D dA H0 YT_mayEnd h0 Po 0 0 (hp σ) 0 [some (vR (some (14, 0))), some (vI x1), o2, o3] [] := by
  unfold kT_mayEnd at hk
  refine j_iconst (pc' := 1) (v := 0) rfl rfl dX6_mayEnd_0 ?_
  refine j_istore_n (pc' := 2) (lt_b rfl) rfl rfl dX6_mayEnd_1 ?_
  obtain ⟨e, he, hk⟩ := of_bind hk
  refine lT_mayEnd_s2 FU _ _ e he ?_ ?_ _
  · intro ς ee _ _ _ _
    subst ee
    exact qT_mayEnd_x35 hk hP
  · intro ς ee _ _ _ _
    subst ee
    exact qT_mayEnd_x43 hk hP
theorem LT_mayEnd {σ σ' : Mem} {x1 : Int32} {r : Int32} (hk : kT_mayEnd σ x1 = some (r, σ')) : M l D dA H0 yX6_mayEnd YT_mayEnd [vR (some (14, 0)), vI x1] (hp σ) (fun x h' => x = some (vI r) ∧ h' = hp σ') :=
  m_of (j := 2) (by decide) rfl (fun hh => by cases hh) ⟨fun _ _ => trivial, rfl⟩ (le_b rfl) (qT_mayEnd hk ⟨rfl, rfl⟩)
theorem qT_costBy_s7 {σ : Mem} {x1 : Int64} {x3 : Int32} {x4 : Int32} {x5 : Int32} {x6 : Int32} {o2 : Option AV} {o7 : Option AV} {out : (Int32 × Int32 × Mem) ⊕ (Int32 × Mem)} (hk : kT_costBy_s7 x1 x3 x4 (x5, x6, σ) = some out) (hc : ∀ (z5 : Int32) (z6 : Int32) (ς : Mem), out = .inl (z5, z6, ς) → ∀ (o2 o7 : Option AV), J l D dA H0 YT_costBy h0 Po 0 0 (hp ς) 7 [some (vR (some (14, 0))), some (vL x1), o2, some (vI x3), some (vI x4), some (vI z5), some (vI z6), o7] []) (hx0 : ∀ (z5 : Int32) (ς : Mem), out = .inr (z5, ς) → ∀ (o0 o2 o3 o4 o6 o7 : Option AV), J l D dA H0 YT_costBy h0 Po 0 0 (hp ς) 60 [o0, some (vL x1), o2, o3, o4, some (vI z5), o6, o7] []) : J l D dA H0 YT_costBy h0 Po 0 0 (hp σ) 7 [some (vR (some (14, 0))), some (vL x1), o2, some (vI x3), some (vI x4), some (vI x5), some (vI x6), o7] [] := by
  unfold kT_costBy_s7 at hk
  refine j_iload (pc' := 9) rfl rfl dX6_costBy_7 ?_
  refine j_aload_n (pc' := 10) rfl rfl dX6_costBy_9 ?_
  refine j_getf (pc' := 13) fg_RX6_40 (hp_e rfl) rfl rfl dX6_costBy_10 ?_
  refine j_ic_ge (pc' := 16) (tg := 60) rfl rfl dX6_costBy_13 (fun c6 => ?_) (fun c6 => ?_)
  · have hk := (if_pos c6).symm.trans hk
    obtain rfl := Option.some.inj hk
    exact hx0 _ _ rfl _ _ _ _ _ _
  · have hk := (if_neg c6).symm.trans hk
    refine j_iload (pc' := 18) rfl rfl dX6_costBy_16 ?_
    refine j_bipush (pc' := 20) (v := 8) rfl rfl dX6_costBy_18 ?_
    refine j_ic_ge (pc' := 23) (tg := 60) rfl rfl dX6_costBy_20 (fun c5 => ?_) (fun c5 => ?_)
    · have hk := (if_pos c5).symm.trans hk
      obtain rfl := Option.some.inj hk
      exact hx0 _ _ rfl _ _ _ _ _ _
    · have hk := (if_neg c5).symm.trans hk
      refine j_aload_n (pc' := 24) rfl rfl dX6_costBy_23 ?_
      refine j_getf (pc' := 27) fg_RX6_18 (hp_e rfl) rfl rfl dX6_costBy_24 ?_
      refine j_iload (pc' := 29) rfl rfl dX6_costBy_27 ?_
      obtain ⟨g1, hk⟩ := of_ite hk
      refine j_aald (pc' := 30) ⟨le_b rfl, lt_b rfl⟩ (hp_e rfl) (inR_in g1) rfl dX6_costBy_29 ?_
      rcases of_elim hk with ⟨hr, hk⟩ | ⟨j2, hr, hk⟩
      · refine j_top (v' := vR none) (congrArg (fun o => vR (Option.map (Prod.mk 23) o)) hr) ?_
        refine j_astore (pc' := 32) (lt_b rfl) rfl rfl dX6_costBy_30 ?_
        refine j_iload (pc' := 34) rfl rfl dX6_costBy_32 ?_
        refine j_aload (pc' := 36) rfl rfl dX6_costBy_34 ?_
        refine j_ifnull (pc' := 39) (tg := 50) rfl rfl dX6_costBy_36 (fun _ => ?_) (fun _ hh => by cases hh)
        refine j_iconst (pc' := 51) (v := 0) rfl rfl dX6_costBy_50 ?_
        refine j_iadd (pc' := 52) rfl dX6_costBy_51 ?_
        refine j_istore (pc' := 54) (lt_b rfl) rfl rfl dX6_costBy_52 ?_
        refine j_iinc (pc' := 57) (v := x6 + 1) rfl rfl (lt_b rfl) rfl rfl dX6_costBy_54 ?_
        refine j_goto (tg := 7) rfl dX6_costBy_57 ?_
        obtain rfl := Option.some.inj hk
        exact hc _ _ _ rfl _ _
      · refine j_top (v' := vR (some (23, j2))) (congrArg (fun o => vR (Option.map (Prod.mk 23) o)) hr) ?_
        refine j_astore (pc' := 32) (lt_b rfl) rfl rfl dX6_costBy_30 ?_
        refine j_iload (pc' := 34) rfl rfl dX6_costBy_32 ?_
        refine j_aload (pc' := 36) rfl rfl dX6_costBy_34 ?_
        refine j_ifnull (pc' := 39) (tg := 50) rfl rfl dX6_costBy_36 (fun hh => by cases hh) (fun _ _ => ?_)
        refine j_aload (pc' := 41) rfl rfl dX6_costBy_39 ?_
        refine j_iload_n (pc' := 42) rfl rfl dX6_costBy_41 ?_
        refine j_iload (pc' := 44) rfl rfl dX6_costBy_42 ?_
        obtain ⟨⟨r3, σ4⟩, hx, hk⟩ := of_bind hk
        refine j_cv1 (pc' := 47) (LU_percentageOf hx) cv_RX6_58 ⟨le_b rfl, le_b rfl⟩ (hp_e rfl) rfl rfl (le_b rfl) ⟨rfl, rfl⟩ ⟨le_b rfl, le_b rfl⟩ rfl rfl dX6_costBy_44 ?_
        refine j_goto (tg := 51) rfl dX6_costBy_47 ?_
        refine j_iadd (pc' := 52) rfl dX6_costBy_51 ?_
        refine j_istore (pc' := 54) (lt_b rfl) rfl rfl dX6_costBy_52 ?_
        refine j_iinc (pc' := 57) (v := x6 + 1) rfl rfl (lt_b rfl) rfl rfl dX6_costBy_54 ?_
        refine j_goto (tg := 7) rfl dX6_costBy_57 ?_
        obtain rfl := Option.some.inj hk
        exact hc _ _ _ rfl _ _
theorem lT_costBy_s7 {x1 : Int64} {x3 : Int32} {x4 : Int32} : ∀ (n : Nat) (x5 : Int32) (x6 : Int32) (σ : Mem) (e : (Int32 × Mem)), loopF n (kT_costBy_s7 x1 x3 x4) (x5, x6, σ) = some e → (∀ (z5 : Int32) (ς : Mem), e = (z5, ς) → ∀ (o0 o2 o3 o4 o6 o7 : Option AV), J l D dA H0 YT_costBy h0 Po 0 0 (hp ς) 60 [o0, some (vL x1), o2, o3, o4, some (vI z5), o6, o7] []) → ∀ (o2 o7 : Option AV), J l D dA H0 YT_costBy h0 Po 0 0 (hp σ) 7 [some (vR (some (14, 0))), some (vL x1), o2, some (vI x3), some (vI x4), some (vI x5), some (vI x6), o7] []
  | 0, x5, x6, σ, e, he => by cases he
  | n + 1, x5, x6, σ, e, he => by
    intro hx0 o2 o7
    rcases loopF_succ he with ⟨s', h1, h2⟩ | h1
    · refine qT_costBy_s7 h1 ?_ ?_
      · intro z5 z6 ς ee
        cases ee
        exact lT_costBy_s7 n z5 z6 ς e h2 hx0
      · intro z5 ς ee
        cases ee
    · refine qT_costBy_s7 h1 ?_ ?_
      · intro z5 z6 ς ee
        cases ee
      · intro z5 ς ee
        exact hx0 z5 ς (Sum.inr.inj ee)
theorem qT_costBy_x60 {σ : Mem} {x1 : Int64} {x5 : Int32} {o0 : Option AV} {o2 : Option AV} {o3 : Option AV} {o4 : Option AV} {o6 : Option AV} {o7 : Option AV} {res : Int64 × Mem} (hk : kT_costBy_x60 σ x1 x5 = some res) (hP : Po (some (vL res.1)) (hp res.2)) : J l D dA H0 YT_costBy h0 Po 0 0 (hp σ) 60 [o0, some (vL x1), o2, o3, o4, some (vI x5), o6, o7] [] := by
  unfold kT_costBy_x60 at hk
  refine j_lload_n (pc' := 61) rfl rfl dX6_costBy_60 ?_
  refine j_iload (pc' := 63) rfl rfl dX6_costBy_61 ?_
  refine j_iconst (pc' := 64) (v := 0) rfl rfl dX6_costBy_63 ?_
  refine j_max (pc' := 67) ⟨gd_of (i := 390) (by decide +kernel) rfl, gd_of (i := 263) (by decide +kernel) rfl, gd_of (i := 50) (by decide +kernel) rfl, gd_of (i := 264) (by decide +kernel) rfl⟩ (le_b rfl) (le_b rfl) ⟨le_b rfl, le_b rfl⟩ rfl dX6_costBy_64 ?_
  refine j_i2l (pc' := 68) rfl dX6_costBy_67 ?_
  refine j_lmul (pc' := 69) rfl dX6_costBy_68 ?_
  refine j_ldc2 (pc' := 72) (v := 100) (gd_of (i := 391) (by decide +kernel) rfl) rfl dX6_costBy_69 ?_
  refine j_ldiv (pc' := 73) (by decide) rfl dX6_costBy_72 ?_
  obtain rfl := Option.some.inj hk
  exact j_lret rfl ⟨rfl, rfl⟩ dX6_costBy_73 hP
theorem qT_costBy {σ : Mem} {x1 : Int64} {x3 : Int32} {x4 : Int32} {o2 : Option AV} {o5 : Option AV} {o6 : Option AV} {o7 : Option AV} {res : Int64 × Mem} (hk : kT_costBy σ x1 x3 x4 = some res) (hP : Po (some (vL res.1)) (hp res.2)) : J l D dA H0 YT_costBy h0 Po 0 0 (hp σ) 0 [some (vR (some (14, 0))), some (vL x1), o2, some (vI x3), some (vI x4), o5, o6, o7] [] := by
  unfold kT_costBy at hk
  refine j_bipush (pc' := 2) (v := 100) rfl rfl dX6_costBy_0 ?_
  refine j_istore (pc' := 4) (lt_b rfl) rfl rfl dX6_costBy_2 ?_
  refine j_iconst (pc' := 5) (v := 0) rfl rfl dX6_costBy_4 ?_
  refine j_istore (pc' := 7) (lt_b rfl) rfl rfl dX6_costBy_5 ?_
  obtain ⟨e, he, hk⟩ := of_bind hk
  refine lT_costBy_s7 FU _ _ _ e he ?_ _ _
  · intro z5 ς ee _ _ _ _ _ _
    subst ee
    exact qT_costBy_x60 hk hP
theorem LT_costBy {σ σ' : Mem} {x1 : Int64} {x3 : Int32} {x4 : Int32} {r : Int64} (hk : kT_costBy σ x1 x3 x4 = some (r, σ')) : M l D dA H0 yX6_costBy YT_costBy [vR (some (14, 0)), vL x1, vI x3, vI x4] (hp σ) (fun x h' => x = some (vL r) ∧ h' = hp σ') :=
  m_of (j := 3) (by decide) rfl (fun hh => by cases hh) ⟨fun _ _ => trivial, rfl⟩ (le_b rfl) (qT_costBy hk ⟨rfl, rfl⟩)
theorem qG_isSpan {σ : Mem} {x0 : Int32} {x1 : Int32} {res : Int32 × Mem} (hk : kG_isSpan σ x0 x1 = some res) (hP : Po (some (vI res.1)) (hp res.2)) : J l D dA H0 YG_isSpan h0 Po 0 0 (hp σ) 0 [some (vI x0), some (vI x1)] [] := by
  unfold kG_isSpan at hk
  refine j_iconst (pc' := 1) (v := 0) rfl rfl dX8_isSpan_0 ?_
  refine j_iload_n (pc' := 2) rfl rfl dX8_isSpan_1 ?_
  refine j_ic_gt (pc' := 5) (tg := 20) rfl rfl dX8_isSpan_2 (fun c3 => ?_) (fun c3 => ?_)
  · have hk := (if_pos c3).symm.trans hk
    refine j_iconst (pc' := 21) (v := 0) rfl rfl dX8_isSpan_20 ?_
    obtain rfl := Option.some.inj hk
    exact j_zret rfl rfl ⟨rfl, rfl⟩ dX8_isSpan_21 hP
  · have hk := (if_neg c3).symm.trans hk
    refine j_iload_n (pc' := 6) rfl rfl dX8_isSpan_5 ?_
    refine j_iload_n (pc' := 7) rfl rfl dX8_isSpan_6 ?_
    refine j_ic_gt (pc' := 10) (tg := 20) rfl rfl dX8_isSpan_7 (fun c2 => ?_) (fun c2 => ?_)
    · have hk := (if_pos c2).symm.trans hk
      refine j_iconst (pc' := 21) (v := 0) rfl rfl dX8_isSpan_20 ?_
      obtain rfl := Option.some.inj hk
      exact j_zret rfl rfl ⟨rfl, rfl⟩ dX8_isSpan_21 hP
    · have hk := (if_neg c2).symm.trans hk
      refine j_iload_n (pc' := 11) rfl rfl dX8_isSpan_10 ?_
      refine j_bipush (pc' := 13) (v := 60) rfl rfl dX8_isSpan_11 ?_
      refine j_ic_gt (pc' := 16) (tg := 20) rfl rfl dX8_isSpan_13 (fun c1 => ?_) (fun c1 => ?_)
      · have hk := (if_pos c1).symm.trans hk
        refine j_iconst (pc' := 21) (v := 0) rfl rfl dX8_isSpan_20 ?_
        obtain rfl := Option.some.inj hk
        exact j_zret rfl rfl ⟨rfl, rfl⟩ dX8_isSpan_21 hP
      · have hk := (if_neg c1).symm.trans hk
        refine j_iconst (pc' := 17) (v := 1) rfl rfl dX8_isSpan_16 ?_
        refine j_goto (tg := 21) rfl dX8_isSpan_17 ?_
        obtain rfl := Option.some.inj hk
        exact j_zret rfl rfl ⟨rfl, rfl⟩ dX8_isSpan_21 hP
theorem LG_isSpan {σ σ' : Mem} {x0 : Int32} {x1 : Int32} {r : Int32} (hk : kG_isSpan σ x0 x1 = some (r, σ')) : M l D dA H0 yX8_isSpan YG_isSpan [vI x0, vI x1] (hp σ) (fun x h' => x = some (vI r) ∧ h' = hp σ') :=
  m_of (j := 0) (by decide) rfl (fun hh => by cases hh) ⟨fun _ _ => trivial, rfl⟩ (le_b rfl) (qG_isSpan hk ⟨rfl, rfl⟩)
theorem qT_costOf_s33 {σ : Mem} {x1 : Int32} {x2 : Int32} {x3 : Int32} {x4 : Int32} {x5 : Int64} {x7 : Int32} {o6 : Option AV} {out : (Int64 × Int32 × Mem) ⊕ (Int64 × Mem)} (hk : kT_costOf_s33 x1 x2 x3 x4 (x5, x7, σ) = some out) (hc : ∀ (z5 : Int64) (z7 : Int32) (ς : Mem), out = .inl (z5, z7, ς) → ∀ (o6 : Option AV), J l D dA H0 YT_costOf h0 Po 0 0 (hp ς) 33 [some (vR (some (14, 0))), some (vI x1), some (vI x2), some (vI x3), some (vI x4), some (vL z5), o6, some (vI z7)] []) (hx0 : ∀ (z5 : Int64) (ς : Mem), out = .inr (z5, ς) → ∀ (o1 o6 o7 : Option AV), J l D dA H0 YT_costOf h0 Po 0 0 (hp ς) 60 [some (vR (some (14, 0))), o1, some (vI x2), some (vI x3), some (vI x4), some (vL z5), o6, o7] []) : J l D dA H0 YT_costOf h0 Po 0 0 (hp σ) 33 [some (vR (some (14, 0))), some (vI x1), some (vI x2), some (vI x3), some (vI x4), some (vL x5), o6, some (vI x7)] [] := by
  unfold kT_costOf_s33 at hk
  refine j_iload (pc' := 35) rfl rfl dX6_costOf_33 ?_
  refine j_iload_n (pc' := 36) rfl rfl dX6_costOf_35 ?_
  refine j_ic_ge (pc' := 39) (tg := 60) rfl rfl dX6_costOf_36 (fun c9 => ?_) (fun c9 => ?_)
  · have hk := (if_pos c9).symm.trans hk
    obtain rfl := Option.some.inj hk
    exact hx0 _ _ rfl _ _ _
  · have hk := (if_neg c9).symm.trans hk
    refine j_lload (pc' := 41) rfl rfl dX6_costOf_39 ?_
    refine j_aload_n (pc' := 42) rfl rfl dX6_costOf_41 ?_
    refine j_getf (pc' := 45) fg_RX6_11 (hp_e rfl) rfl rfl dX6_costOf_42 ?_
    refine j_iload_n (pc' := 46) rfl rfl dX6_costOf_45 ?_
    obtain ⟨g7, hk⟩ := of_ite hk
    refine j_grid (pc' := 47) (inR_in g7) rfl dX6_costOf_46 ?_
    refine j_iload (pc' := 49) rfl rfl dX6_costOf_47 ?_
    obtain ⟨g8, hk⟩ := of_ite hk
    refine j_iald (pc' := 50) (hp_e rfl) (inR_in g8) rfl dX6_costOf_49 ?_
    refine j_i2l (pc' := 51) rfl dX6_costOf_50 ?_
    refine j_ladd (pc' := 52) rfl dX6_costOf_51 ?_
    refine j_lstore (pc' := 54) (lt_b rfl) rfl rfl dX6_costOf_52 ?_
    refine j_iinc (pc' := 57) (v := x7 + 1) rfl rfl (lt_b rfl) rfl rfl dX6_costOf_54 ?_
    refine j_goto (tg := 33) rfl dX6_costOf_57 ?_
    obtain rfl := Option.some.inj hk
    exact hc _ _ _ rfl _
theorem lT_costOf_s33 {x1 : Int32} {x2 : Int32} {x3 : Int32} {x4 : Int32} : ∀ (n : Nat) (x5 : Int64) (x7 : Int32) (σ : Mem) (e : (Int64 × Mem)), loopF n (kT_costOf_s33 x1 x2 x3 x4) (x5, x7, σ) = some e → (∀ (z5 : Int64) (ς : Mem), e = (z5, ς) → ∀ (o1 o6 o7 : Option AV), J l D dA H0 YT_costOf h0 Po 0 0 (hp ς) 60 [some (vR (some (14, 0))), o1, some (vI x2), some (vI x3), some (vI x4), some (vL z5), o6, o7] []) → ∀ (o6 : Option AV), J l D dA H0 YT_costOf h0 Po 0 0 (hp σ) 33 [some (vR (some (14, 0))), some (vI x1), some (vI x2), some (vI x3), some (vI x4), some (vL x5), o6, some (vI x7)] []
  | 0, x5, x7, σ, e, he => by cases he
  | n + 1, x5, x7, σ, e, he => by
    intro hx0 o6
    rcases loopF_succ he with ⟨s', h1, h2⟩ | h1
    · refine qT_costOf_s33 h1 ?_ ?_
      · intro z5 z7 ς ee
        cases ee
        exact lT_costOf_s33 n z5 z7 ς e h2 hx0
      · intro z5 ς ee
        cases ee
    · refine qT_costOf_s33 h1 ?_ ?_
      · intro z5 z7 ς ee
        cases ee
      · intro z5 ς ee
        exact hx0 z5 ς (Sum.inr.inj ee)
theorem qT_costOf_x60 {σ : Mem} {x2 : Int32} {x3 : Int32} {x4 : Int32} {x5 : Int64} {o1 : Option AV} {o6 : Option AV} {o7 : Option AV} {res : Int64 × Mem} (hk : kT_costOf_x60 σ x2 x3 x4 x5 = some res) (hP : Po (some (vL res.1)) (hp res.2)) : J l D dA H0 YT_costOf h0 Po 0 0 (hp σ) 60 [some (vR (some (14, 0))), o1, some (vI x2), some (vI x3), some (vI x4), some (vL x5), o6, o7] [] := by
  unfold kT_costOf_x60 at hk
  refine j_aload_n (pc' := 61) rfl rfl dX6_costOf_60 ?_
  refine j_lload (pc' := 63) rfl rfl dX6_costOf_61 ?_
  refine j_iload_n (pc' := 64) rfl rfl dX6_costOf_63 ?_
  refine j_iload_n (pc' := 65) rfl rfl dX6_costOf_64 ?_
  refine j_isub (pc' := 66) rfl dX6_costOf_65 ?_
  refine j_iload_n (pc' := 67) rfl rfl dX6_costOf_66 ?_
  refine j_iload (pc' := 69) rfl rfl dX6_costOf_67 ?_
  refine j_isub (pc' := 70) rfl dX6_costOf_69 ?_
  obtain ⟨⟨r10, σ11⟩, hx, hk⟩ := of_bind hk
  refine j_cv1 (pc' := 73) (LT_costBy hx) cv_RX6_72 ⟨le_b rfl, le_b rfl⟩ (hp_e rfl) rfl rfl (le_b rfl) ⟨rfl, rfl⟩ ⟨le_b rfl, le_b rfl⟩ rfl rfl dX6_costOf_70 ?_
  obtain rfl := Option.some.inj hk
  exact j_lret rfl ⟨rfl, rfl⟩ dX6_costOf_73 hP
theorem qT_costOf {σ : Mem} {x1 : Int32} {x2 : Int32} {x3 : Int32} {x4 : Int32} {o5 : Option AV} {o6 : Option AV} {o7 : Option AV} {res : Int64 × Mem} (hk : kT_costOf σ x1 x2 x3 x4 = some res) (hP : Po (some (vL res.1)) (hp res.2)) : J l D dA H0 YT_costOf h0 Po 0 0 (hp σ) 0 [some (vR (some (14, 0))), some (vI x1), some (vI x2), some (vI x3), some (vI x4), o5, o6, o7] [] := by
  unfold kT_costOf at hk
  refine j_iload_n (pc' := 1) rfl rfl dX6_costOf_0 ?_
  obtain ⟨⟨r1, σ2⟩, hx, hk⟩ := of_bind hk
  refine j_cs1 (pc' := 4) (LG_isWant hx) cs_RX6_30 ⟨le_b rfl, le_b rfl⟩ rfl (le_b rfl) ⟨rfl, rfl⟩ ⟨le_b rfl, le_b rfl⟩ rfl rfl dX6_costOf_1 ?_
  refine j_if_eq (pc' := 7) (tg := 23) rfl rfl dX6_costOf_4 (fun c14 => ?_) (fun c14 => ?_)
  · have hk := (if_pos c14).symm.trans hk
    refine j_ldc2 (pc' := 26) (v := (-1)) (gd_of (i := 369) (by decide +kernel) rfl) rfl dX6_costOf_23 ?_
    obtain rfl := Option.some.inj hk
    exact j_lret rfl ⟨rfl, rfl⟩ dX6_costOf_26 hP
  · have hk := (if_neg c14).symm.trans hk
    refine j_iload_n (pc' := 8) rfl rfl dX6_costOf_7 ?_
    refine j_iload_n (pc' := 9) rfl rfl dX6_costOf_8 ?_
    obtain ⟨⟨r3, σ4⟩, hx, hk⟩ := of_bind hk
    refine j_cs1 (pc' := 12) (LG_isSpan hx) cs_RX6_63 ⟨le_b rfl, le_b rfl⟩ rfl (le_b rfl) ⟨rfl, rfl⟩ ⟨le_b rfl, le_b rfl⟩ rfl rfl dX6_costOf_9 ?_
    refine j_if_eq (pc' := 15) (tg := 23) rfl rfl dX6_costOf_12 (fun c13 => ?_) (fun c13 => ?_)
    · have hk := (if_pos c13).symm.trans hk
      refine j_ldc2 (pc' := 26) (v := (-1)) (gd_of (i := 369) (by decide +kernel) rfl) rfl dX6_costOf_23 ?_
      obtain rfl := Option.some.inj hk
      exact j_lret rfl ⟨rfl, rfl⟩ dX6_costOf_26 hP
    · have hk := (if_neg c13).symm.trans hk
      refine j_aload_n (pc' := 16) rfl rfl dX6_costOf_15 ?_
      refine j_iload_n (pc' := 17) rfl rfl dX6_costOf_16 ?_
      obtain ⟨⟨r5, σ6⟩, hx, hk⟩ := of_bind hk
      refine j_cv1 (pc' := 20) (LT_mayEnd hx) cv_RX6_67 ⟨le_b rfl, le_b rfl⟩ (hp_e rfl) rfl rfl (le_b rfl) ⟨rfl, rfl⟩ ⟨le_b rfl, le_b rfl⟩ rfl rfl dX6_costOf_17 ?_
      refine j_if_ne (pc' := 23) (tg := 27) rfl rfl dX6_costOf_20 (fun c12 => ?_) (fun c12 => ?_)
      · have hk := (if_neg c12).symm.trans hk
        refine j_lconst (pc' := 28) (v := 0) rfl rfl dX6_costOf_27 ?_
        refine j_lstore (pc' := 30) (lt_b rfl) rfl rfl dX6_costOf_28 ?_
        refine j_iload_n (pc' := 31) rfl rfl dX6_costOf_30 ?_
        refine j_istore (pc' := 33) (lt_b rfl) rfl rfl dX6_costOf_31 ?_
        obtain ⟨e, he, hk⟩ := of_bind hk
        refine lT_costOf_s33 FU _ _ _ e he ?_ _
        · intro z5 ς ee _ _ _
          subst ee
          exact qT_costOf_x60 hk hP
      · have hk := (if_pos c12).symm.trans hk
        refine j_ldc2 (pc' := 26) (v := (-1)) (gd_of (i := 369) (by decide +kernel) rfl) rfl dX6_costOf_23 ?_
        obtain rfl := Option.some.inj hk
        exact j_lret rfl ⟨rfl, rfl⟩ dX6_costOf_26 hP
theorem LT_costOf {σ σ' : Mem} {x1 : Int32} {x2 : Int32} {x3 : Int32} {x4 : Int32} {r : Int64} (hk : kT_costOf σ x1 x2 x3 x4 = some (r, σ')) : M l D dA H0 yX6_costOf YT_costOf [vR (some (14, 0)), vI x1, vI x2, vI x3, vI x4] (hp σ) (fun x h' => x = some (vL r) ∧ h' = hp σ') :=
  m_of (j := 3) (by decide) rfl (fun hh => by cases hh) ⟨fun _ _ => trivial, rfl⟩ (le_b rfl) (qT_costOf hk ⟨rfl, rfl⟩)
theorem qT_searchLastPart_j130 {σ : Mem} {x1 : Int32} {x2 : Int32} {x3 : Int32} {x4 : Int32} {x5 : Int64} {x7 : Int32} {x8 : Int64} {x10 : Int32} {o6 : Option AV} {o9 : Option AV} {out : Int64 × Int32 × Mem ⊕ (Mem)} (hk : kT_searchLastPart_j130 σ x1 x2 x3 x4 x5 x7 x8 x10 = some out) (hc : ∀ (z5 : Int64) (z7 : Int32) (ς : Mem), out = .inl (z5, z7, ς) → ∀ (o6 o8 o9 o10 : Option AV), J l D dA H0 YT_searchLastPart h0 Po 0 0 (hp ς) 8 [some (vR (some (14, 0))), some (vI x1), some (vI x2), some (vI x3), some (vI x4), some (vL z5), o6, some (vI z7), o8, o9, o10] []) (hx0 : ∀ (ς : Mem), out = .inr ς → ∀ (o0 o1 o2 o3 o4 o5 o6 o7 o8 o9 o10 : Option AV), J l D dA H0 YT_searchLastPart h0 Po 0 0 (hp ς) 152 [o0, o1, o2, o3, o4, o5, o6, o7, o8, o9, o10] []) : J l D dA H0 YT_searchLastPart h0 Po 0 0 (hp σ) 130 [some (vR (some (14, 0))), some (vI x1), some (vI x2), some (vI x3), some (vI x4), some (vL x5), o6, some (vI x7), some (vL x8), o9, some (vI x10)] [] := by
  unfold kT_searchLastPart_j130 at hk
  refine j_aload_n (pc' := 131) rfl rfl dX6_searchLastPart_130 ?_
  refine j_getf (pc' := 134) fg_RX6_22 (hp_e rfl) rfl rfl dX6_searchLastPart_131 ?_
  refine j_iload_n (pc' := 135) rfl rfl dX6_searchLastPart_134 ?_
  refine j_lload (pc' := 137) rfl rfl dX6_searchLastPart_135 ?_
  obtain ⟨g9, hk⟩ := of_ite hk
  refine j_sl (pc' := 138) (fun _ _ _ => rfl) (inR_in g9) rfl dX6_searchLastPart_137 ?_
  refine j_aload_n (pc' := 139) rfl rfl dX6_searchLastPart_138 ?_
  refine j_getf (pc' := 142) fg_RX6_26 (hp_e rfl) rfl rfl dX6_searchLastPart_139 ?_
  refine j_iload_n (pc' := 143) rfl rfl dX6_searchLastPart_142 ?_
  refine j_iload (pc' := 145) rfl rfl dX6_searchLastPart_143 ?_
  obtain ⟨g10, hk⟩ := of_ite hk
  refine j_si (pc' := 146) (fun _ _ _ => rfl) (inR_in g10) rfl dX6_searchLastPart_145 ?_
  refine j_iinc (pc' := 149) (v := x7 + (-1)) rfl (congrArg (_ + ·) (by decide)) (lt_b rfl) rfl rfl dX6_searchLastPart_146 ?_
  refine j_goto (tg := 8) rfl dX6_searchLastPart_149 ?_
  obtain rfl := Option.some.inj hk
  exact hc _ _ _ rfl _ _ _ _
theorem qT_searchLastPart_s8 {σ : Mem} {x1 : Int32} {x2 : Int32} {x3 : Int32} {x4 : Int32} {x5 : Int64} {x7 : Int32} {o6 : Option AV} {o8 : Option AV} {o9 : Option AV} {o10 : Option AV} {out : (Int64 × Int32 × Mem) ⊕ (Mem)} (hk : kT_searchLastPart_s8 x1 x2 x3 x4 (x5, x7, σ) = some out) (hc : ∀ (z5 : Int64) (z7 : Int32) (ς : Mem), out = .inl (z5, z7, ς) → ∀ (o6 o8 o9 o10 : Option AV), J l D dA H0 YT_searchLastPart h0 Po 0 0 (hp ς) 8 [some (vR (some (14, 0))), some (vI x1), some (vI x2), some (vI x3), some (vI x4), some (vL z5), o6, some (vI z7), o8, o9, o10] []) (hx0 : ∀ (ς : Mem), out = .inr ς → ∀ (o0 o1 o2 o3 o4 o5 o6 o7 o8 o9 o10 : Option AV), J l D dA H0 YT_searchLastPart h0 Po 0 0 (hp ς) 152 [o0, o1, o2, o3, o4, o5, o6, o7, o8, o9, o10] []) : J l D dA H0 YT_searchLastPart h0 Po 0 0 (hp σ) 8 [some (vR (some (14, 0))), some (vI x1), some (vI x2), some (vI x3), some (vI x4), some (vL x5), o6, some (vI x7), o8, o9, o10] [] := by
  unfold kT_searchLastPart_s8 at hk
  refine j_iload (pc' := 10) rfl rfl dX6_searchLastPart_8 ?_
  refine j_iload_n (pc' := 11) rfl rfl dX6_searchLastPart_10 ?_
  refine j_ic_lt (pc' := 14) (tg := 152) rfl rfl dX6_searchLastPart_11 (fun c19 => ?_) (fun c19 => ?_)
  · have hk := (if_pos c19).symm.trans hk
    obtain rfl := Option.some.inj hk
    exact hx0 _ rfl _ _ _ _ _ _ _ _ _ _ _
  · have hk := (if_neg c19).symm.trans hk
    refine j_lload (pc' := 16) rfl rfl dX6_searchLastPart_14 ?_
    refine j_aload_n (pc' := 17) rfl rfl dX6_searchLastPart_16 ?_
    refine j_getf (pc' := 20) fg_RX6_11 (hp_e rfl) rfl rfl dX6_searchLastPart_17 ?_
    refine j_iload_n (pc' := 21) rfl rfl dX6_searchLastPart_20 ?_
    obtain ⟨g1, hk⟩ := of_ite hk
    refine j_grid (pc' := 22) (inR_in g1) rfl dX6_searchLastPart_21 ?_
    refine j_iload (pc' := 24) rfl rfl dX6_searchLastPart_22 ?_
    obtain ⟨g2, hk⟩ := of_ite hk
    refine j_iald (pc' := 25) (hp_e rfl) (inR_in g2) rfl dX6_searchLastPart_24 ?_
    refine j_i2l (pc' := 26) rfl dX6_searchLastPart_25 ?_
    refine j_ladd (pc' := 27) rfl dX6_searchLastPart_26 ?_
    refine j_lstore (pc' := 29) (lt_b rfl) rfl rfl dX6_searchLastPart_27 ?_
    refine j_aload_n (pc' := 30) rfl rfl dX6_searchLastPart_29 ?_
    refine j_getf (pc' := 33) fg_RX6_22 (hp_e rfl) rfl rfl dX6_searchLastPart_30 ?_
    refine j_iload (pc' := 35) rfl rfl dX6_searchLastPart_33 ?_
    obtain ⟨g3, hk⟩ := of_ite hk
    refine j_lald (pc' := 36) (hp_e rfl) (inR_in g3) rfl dX6_searchLastPart_35 ?_
    refine j_ldc2 (pc' := 39) (v := (-1)) (gd_of (i := 369) (by decide +kernel) rfl) rfl dX6_searchLastPart_36 ?_
    refine j_lcmp (pc' := 40) rfl dX6_searchLastPart_39 ?_
    refine j_if_ne (pc' := 43) (tg := 46) rfl rfl dX6_searchLastPart_40 (fun c18 => ?_) (fun c18 => ?_)
    · have hk := (if_neg c18).symm.trans hk
      refine j_aload_n (pc' := 47) rfl rfl dX6_searchLastPart_46 ?_
      refine j_getf (pc' := 50) fg_RX6_22 (hp_e rfl) rfl rfl dX6_searchLastPart_47 ?_
      refine j_iload (pc' := 52) rfl rfl dX6_searchLastPart_50 ?_
      obtain ⟨g4, hk⟩ := of_ite hk
      refine j_lald (pc' := 53) (hp_e rfl) (inR_in g4) rfl dX6_searchLastPart_52 ?_
      refine j_aload_n (pc' := 54) rfl rfl dX6_searchLastPart_53 ?_
      refine j_lload (pc' := 56) rfl rfl dX6_searchLastPart_54 ?_
      refine j_iload_n (pc' := 57) rfl rfl dX6_searchLastPart_56 ?_
      refine j_iload (pc' := 59) rfl rfl dX6_searchLastPart_57 ?_
      refine j_isub (pc' := 60) rfl dX6_searchLastPart_59 ?_
      refine j_iload (pc' := 62) rfl rfl dX6_searchLastPart_60 ?_
      refine j_iload (pc' := 64) rfl rfl dX6_searchLastPart_62 ?_
      refine j_isub (pc' := 65) rfl dX6_searchLastPart_64 ?_
      obtain ⟨⟨r5, σ6⟩, hx, hk⟩ := of_bind hk
      refine j_cv1 (pc' := 68) (LT_costBy hx) cv_RX6_72 ⟨le_b rfl, le_b rfl⟩ (hp_e rfl) rfl rfl (le_b rfl) ⟨rfl, rfl⟩ ⟨le_b rfl, le_b rfl⟩ rfl rfl dX6_searchLastPart_65 ?_
      refine j_ladd (pc' := 69) rfl dX6_searchLastPart_68 ?_
      refine j_lstore (pc' := 71) (lt_b rfl) rfl rfl dX6_searchLastPart_69 ?_
      refine j_aload_n (pc' := 72) rfl rfl dX6_searchLastPart_71 ?_
      refine j_getf (pc' := 75) fg_RX6_26 (hp_e rfl) rfl rfl dX6_searchLastPart_72 ?_
      refine j_iload (pc' := 77) rfl rfl dX6_searchLastPart_75 ?_
      obtain ⟨g7, hk⟩ := of_ite hk
      refine j_iald (pc' := 78) (hp_e rfl) (inR_in g7) rfl dX6_searchLastPart_77 ?_
      refine j_iconst (pc' := 79) (v := 1) rfl rfl dX6_searchLastPart_78 ?_
      refine j_iadd (pc' := 80) rfl dX6_searchLastPart_79 ?_
      refine j_istore (pc' := 82) (lt_b rfl) rfl rfl dX6_searchLastPart_80 ?_
      refine j_aload_n (pc' := 83) rfl rfl dX6_searchLastPart_82 ?_
      refine j_getf (pc' := 86) fg_RX6_22 (hp_e rfl) rfl rfl dX6_searchLastPart_83 ?_
      refine j_iload_n (pc' := 87) rfl rfl dX6_searchLastPart_86 ?_
      obtain ⟨g8, hk⟩ := of_ite hk
      refine j_lald (pc' := 88) (hp_e rfl) (inR_in g8) rfl dX6_searchLastPart_87 ?_
      refine j_ldc2 (pc' := 91) (v := (-1)) (gd_of (i := 369) (by decide +kernel) rfl) rfl dX6_searchLastPart_88 ?_
      refine j_lcmp (pc' := 92) rfl dX6_searchLastPart_91 ?_
      refine j_if_eq (pc' := 95) (tg := 130) rfl rfl dX6_searchLastPart_92 (fun c17 => ?_) (fun c17 => ?_)
      · have hk := (if_pos c17).symm.trans hk
        exact qT_searchLastPart_j130 hk hc hx0
      · have hk := (if_neg c17).symm.trans hk
        refine j_lload (pc' := 97) rfl rfl dX6_searchLastPart_95 ?_
        refine j_aload_n (pc' := 98) rfl rfl dX6_searchLastPart_97 ?_
        refine j_getf (pc' := 101) fg_RX6_22 (hp_e rfl) rfl rfl dX6_searchLastPart_98 ?_
        refine j_iload_n (pc' := 102) rfl rfl dX6_searchLastPart_101 ?_
        obtain ⟨g11, hk⟩ := of_ite hk
        refine j_lald (pc' := 103) (hp_e rfl) (inR_in g11) rfl dX6_searchLastPart_102 ?_
        refine j_lcmp (pc' := 104) rfl dX6_searchLastPart_103 ?_
        refine j_if_lt (pc' := 107) (tg := 130) rfl rfl dX6_searchLastPart_104 (fun c16 => ?_) (fun c16 => ?_)
        · have hk := (if_pos c16).symm.trans hk
          exact qT_searchLastPart_j130 hk hc hx0
        · have hk := (if_neg c16).symm.trans hk
          refine j_lload (pc' := 109) rfl rfl dX6_searchLastPart_107 ?_
          refine j_aload_n (pc' := 110) rfl rfl dX6_searchLastPart_109 ?_
          refine j_getf (pc' := 113) fg_RX6_22 (hp_e rfl) rfl rfl dX6_searchLastPart_110 ?_
          refine j_iload_n (pc' := 114) rfl rfl dX6_searchLastPart_113 ?_
          obtain ⟨g12, hk⟩ := of_ite hk
          refine j_lald (pc' := 115) (hp_e rfl) (inR_in g12) rfl dX6_searchLastPart_114 ?_
          refine j_lcmp (pc' := 116) rfl dX6_searchLastPart_115 ?_
          refine j_if_ne (pc' := 119) (tg := 146) rfl rfl dX6_searchLastPart_116 (fun c15 => ?_) (fun c15 => ?_)
          · have hk := (if_neg c15).symm.trans hk
            refine j_iinc (pc' := 149) (v := x7 + (-1)) rfl (congrArg (_ + ·) (by decide)) (lt_b rfl) rfl rfl dX6_searchLastPart_146 ?_
            refine j_goto (tg := 8) rfl dX6_searchLastPart_149 ?_
            obtain rfl := Option.some.inj hk
            exact hc _ _ _ rfl _ _ _ _
          · have hk := (if_pos c15).symm.trans hk
            refine j_iload (pc' := 121) rfl rfl dX6_searchLastPart_119 ?_
            refine j_aload_n (pc' := 122) rfl rfl dX6_searchLastPart_121 ?_
            refine j_getf (pc' := 125) fg_RX6_26 (hp_e rfl) rfl rfl dX6_searchLastPart_122 ?_
            refine j_iload_n (pc' := 126) rfl rfl dX6_searchLastPart_125 ?_
            obtain ⟨g13, hk⟩ := of_ite hk
            refine j_iald (pc' := 127) (hp_e rfl) (inR_in g13) rfl dX6_searchLastPart_126 ?_
            refine j_ic_ge (pc' := 130) (tg := 146) rfl rfl dX6_searchLastPart_127 (fun c14 => ?_) (fun c14 => ?_)
            · have hk := (if_pos c14).symm.trans hk
              refine j_iinc (pc' := 149) (v := x7 + (-1)) rfl (congrArg (_ + ·) (by decide)) (lt_b rfl) rfl rfl dX6_searchLastPart_146 ?_
              refine j_goto (tg := 8) rfl dX6_searchLastPart_149 ?_
              obtain rfl := Option.some.inj hk
              exact hc _ _ _ rfl _ _ _ _
            · have hk := (if_neg c14).symm.trans hk
              exact qT_searchLastPart_j130 hk hc hx0
    · have hk := (if_pos c18).symm.trans hk
      refine j_goto (tg := 146) rfl dX6_searchLastPart_43 ?_
      refine j_iinc (pc' := 149) (v := x7 + (-1)) rfl (congrArg (_ + ·) (by decide)) (lt_b rfl) rfl rfl dX6_searchLastPart_146 ?_
      refine j_goto (tg := 8) rfl dX6_searchLastPart_149 ?_
      obtain rfl := Option.some.inj hk
      exact hc _ _ _ rfl _ _ _ _
theorem lT_searchLastPart_s8 {x1 : Int32} {x2 : Int32} {x3 : Int32} {x4 : Int32} : ∀ (n : Nat) (x5 : Int64) (x7 : Int32) (σ : Mem) (e : (Mem)), loopF n (kT_searchLastPart_s8 x1 x2 x3 x4) (x5, x7, σ) = some e → (∀ (ς : Mem), e = ς → ∀ (o0 o1 o2 o3 o4 o5 o6 o7 o8 o9 o10 : Option AV), J l D dA H0 YT_searchLastPart h0 Po 0 0 (hp ς) 152 [o0, o1, o2, o3, o4, o5, o6, o7, o8, o9, o10] []) → ∀ (o6 o8 o9 o10 : Option AV), J l D dA H0 YT_searchLastPart h0 Po 0 0 (hp σ) 8 [some (vR (some (14, 0))), some (vI x1), some (vI x2), some (vI x3), some (vI x4), some (vL x5), o6, some (vI x7), o8, o9, o10] []
  | 0, x5, x7, σ, e, he => by cases he
  | n + 1, x5, x7, σ, e, he => by
    intro hx0 o6 o8 o9 o10
    rcases loopF_succ he with ⟨s', h1, h2⟩ | h1
    · refine qT_searchLastPart_s8 h1 ?_ ?_
      · intro z5 z7 ς ee
        cases ee
        exact lT_searchLastPart_s8 n z5 z7 ς e h2 hx0
      · intro ς ee
        cases ee
    · refine qT_searchLastPart_s8 h1 ?_ ?_
      · intro z5 z7 ς ee
        cases ee
      · intro ς ee
        exact hx0 ς (Sum.inr.inj ee)
theorem qT_searchLastPart_x152 {σ : Mem} {o0 : Option AV} {o1 : Option AV} {o2 : Option AV} {o3 : Option AV} {o4 : Option AV} {o5 : Option AV} {o6 : Option AV} {o7 : Option AV} {o8 : Option AV} {o9 : Option AV} {o10 : Option AV} {res : Unit × Mem} (hk : kT_searchLastPart_x152 σ = some res) (hP : Po none (hp res.2)) : J l D dA H0 YT_searchLastPart h0 Po 0 0 (hp σ) 152 [o0, o1, o2, o3, o4, o5, o6, o7, o8, o9, o10] [] := by
  unfold kT_searchLastPart_x152 at hk
  obtain rfl := Option.some.inj hk
  exact j_ret rfl ⟨rfl, rfl⟩ dX6_searchLastPart_152 hP
theorem qT_searchLastPart {σ : Mem} {x1 : Int32} {x2 : Int32} {x3 : Int32} {x4 : Int32} {o5 : Option AV} {o6 : Option AV} {o7 : Option AV} {o8 : Option AV} {o9 : Option AV} {o10 : Option AV} {res : Unit × Mem} (hk : kT_searchLastPart σ x1 x2 x3 x4 = some res) (hP : Po none (hp res.2)) : J l D dA H0 YT_searchLastPart h0 Po 0 0 (hp σ) 0 [some (vR (some (14, 0))), some (vI x1), some (vI x2), some (vI x3), some (vI x4), o5, o6, o7, o8, o9, o10] [] := by
  unfold kT_searchLastPart at hk
  refine j_lconst (pc' := 1) (v := 0) rfl rfl dX6_searchLastPart_0 ?_
  refine j_lstore (pc' := 3) (lt_b rfl) rfl rfl dX6_searchLastPart_1 ?_
  refine j_iload_n (pc' := 4) rfl rfl dX6_searchLastPart_3 ?_
  refine j_iconst (pc' := 5) (v := 1) rfl rfl dX6_searchLastPart_4 ?_
  refine j_isub (pc' := 6) rfl dX6_searchLastPart_5 ?_
  refine j_istore (pc' := 8) (lt_b rfl) rfl rfl dX6_searchLastPart_6 ?_
  obtain ⟨e, he, hk⟩ := of_bind hk
  refine lT_searchLastPart_s8 FU _ _ _ e he ?_ _ _ _ _
  · intro ς ee _ _ _ _ _ _ _ _ _ _ _
    subst ee
    exact qT_searchLastPart_x152 hk hP
theorem LT_searchLastPart {σ σ' : Mem} {x1 : Int32} {x2 : Int32} {x3 : Int32} {x4 : Int32} {r : Unit} (hk : kT_searchLastPart σ x1 x2 x3 x4 = some (r, σ')) : M l D dA H0 yX6_searchLastPart YT_searchLastPart [vR (some (14, 0)), vI x1, vI x2, vI x3, vI x4] (hp σ) (fun x h' => x = none ∧ h' = hp σ') :=
  m_of (j := 6) (by decide) rfl (fun hh => by cases hh) ⟨fun _ _ => trivial, rfl⟩ (le_b rfl) (qT_searchLastPart hk ⟨rfl, rfl⟩)
theorem qT_search_s36 {σ : Mem} {x1 : Int32} {x2 : Int32} {x3 : Int32} {x4 : Int32} {x5 : Int32} {out : (Int32 × Mem) ⊕ (Mem)} (hk : kT_search_s36 x1 x2 x3 x4 (x5, σ) = some out) (hc : ∀ (z5 : Int32) (ς : Mem), out = .inl (z5, ς) → ∀ (_ : Unit), J l D dA H0 YT_search h0 Po 0 0 (hp ς) 36 [some (vR (some (14, 0))), some (vI x1), some (vI x2), some (vI x3), some (vI x4), some (vI z5)] []) (hx0 : ∀ (ς : Mem), out = .inr ς → ∀ (o1 o2 o4 o5 : Option AV), J l D dA H0 YT_search h0 Po 0 0 (hp ς) 77 [some (vR (some (14, 0))), o1, o2, some (vI x3), o4, o5] []) : J l D dA H0 YT_search h0 Po 0 0 (hp σ) 36 [some (vR (some (14, 0))), some (vI x1), some (vI x2), some (vI x3), some (vI x4), some (vI x5)] [] := by
  unfold kT_search_s36 at hk
  refine j_iload (pc' := 38) rfl rfl dX6_search_36 ?_
  refine j_iload_n (pc' := 39) rfl rfl dX6_search_38 ?_
  refine j_ic_gt (pc' := 42) (tg := 77) rfl rfl dX6_search_39 (fun c13 => ?_) (fun c13 => ?_)
  · have hk := (if_pos c13).symm.trans hk
    obtain rfl := Option.some.inj hk
    exact hx0 _ rfl _ _ _ _
  · have hk := (if_neg c13).symm.trans hk
    refine j_aload_n (pc' := 43) rfl rfl dX6_search_42 ?_
    refine j_getf (pc' := 46) fg_RX6_22 (hp_e rfl) rfl rfl dX6_search_43 ?_
    refine j_iload (pc' := 48) rfl rfl dX6_search_46 ?_
    refine j_ldc2 (pc' := 51) (v := (-1)) (gd_of (i := 369) (by decide +kernel) rfl) rfl dX6_search_48 ?_
    obtain ⟨g7, hk⟩ := of_ite hk
    refine j_sl (pc' := 52) (fun _ _ _ => rfl) (inR_in g7) rfl dX6_search_51 ?_
    refine j_aload_n (pc' := 53) rfl rfl dX6_search_52 ?_
    refine j_iload (pc' := 55) rfl rfl dX6_search_53 ?_
    obtain ⟨⟨r8, σ9⟩, hx, hk⟩ := of_bind hk
    refine j_cv1 (pc' := 58) (LT_mayEnd hx) cv_RX6_67 ⟨le_b rfl, le_b rfl⟩ (hp_e rfl) rfl rfl (le_b rfl) ⟨rfl, rfl⟩ ⟨le_b rfl, le_b rfl⟩ rfl rfl dX6_search_55 ?_
    refine j_if_eq (pc' := 61) (tg := 71) rfl rfl dX6_search_58 (fun c12 => ?_) (fun c12 => ?_)
    · have hk := (if_pos c12).symm.trans hk
      refine j_iinc (pc' := 74) (v := x5 + 1) rfl rfl (lt_b rfl) rfl rfl dX6_search_71 ?_
      refine j_goto (tg := 36) rfl dX6_search_74 ?_
      obtain rfl := Option.some.inj hk
      exact hc _ _ rfl ()
    · have hk := (if_neg c12).symm.trans hk
      refine j_aload_n (pc' := 62) rfl rfl dX6_search_61 ?_
      refine j_iload_n (pc' := 63) rfl rfl dX6_search_62 ?_
      refine j_iload_n (pc' := 64) rfl rfl dX6_search_63 ?_
      refine j_iload (pc' := 66) rfl rfl dX6_search_64 ?_
      refine j_iload (pc' := 68) rfl rfl dX6_search_66 ?_
      obtain ⟨⟨_, σ11⟩, hx, hk⟩ := of_bind hk
      refine j_cv0 (pc' := 71) (LT_searchLastPart hx) cv_RX6_80 ⟨le_b rfl, le_b rfl⟩ (hp_e rfl) rfl rfl (le_b rfl) ⟨rfl, rfl⟩ ⟨le_b rfl, le_b rfl⟩ rfl rfl dX6_search_68 ?_
      refine j_iinc (pc' := 74) (v := x5 + 1) rfl rfl (lt_b rfl) rfl rfl dX6_search_71 ?_
      refine j_goto (tg := 36) rfl dX6_search_74 ?_
      obtain rfl := Option.some.inj hk
      exact hc _ _ rfl ()
theorem lT_search_s36 {x1 : Int32} {x2 : Int32} {x3 : Int32} {x4 : Int32} : ∀ (n : Nat) (x5 : Int32) (σ : Mem) (e : (Mem)), loopF n (kT_search_s36 x1 x2 x3 x4) (x5, σ) = some e → (∀ (ς : Mem), e = ς → ∀ (o1 o2 o4 o5 : Option AV), J l D dA H0 YT_search h0 Po 0 0 (hp ς) 77 [some (vR (some (14, 0))), o1, o2, some (vI x3), o4, o5] []) → ∀ (_ : Unit), J l D dA H0 YT_search h0 Po 0 0 (hp σ) 36 [some (vR (some (14, 0))), some (vI x1), some (vI x2), some (vI x3), some (vI x4), some (vI x5)] []
  | 0, x5, σ, e, he => by cases he
  | n + 1, x5, σ, e, he => by
    intro hx0 u
    rcases loopF_succ he with ⟨s', h1, h2⟩ | h1
    · refine qT_search_s36 h1 ?_ ?_
      · intro z5 ς ee
        cases ee
        exact lT_search_s36 n z5 ς e h2 hx0
      · intro ς ee
        cases ee
    · refine qT_search_s36 h1 ?_ ?_
      · intro z5 ς ee
        cases ee
      · intro ς ee
        exact hx0 ς (Sum.inr.inj ee)
theorem qT_search_x77 {σ : Mem} {x3 : Int32} {o1 : Option AV} {o2 : Option AV} {o4 : Option AV} {o5 : Option AV} {res : Int32 × Mem} (hk : kT_search_x77 σ x3 = some res) (hP : Po (some (vI res.1)) (hp res.2)) : J l D dA H0 YT_search h0 Po 0 0 (hp σ) 77 [some (vR (some (14, 0))), o1, o2, some (vI x3), o4, o5] [] := by
  unfold kT_search_x77 at hk
  refine j_aload_n (pc' := 78) rfl rfl dX6_search_77 ?_
  refine j_getf (pc' := 81) fg_RX6_22 (hp_e rfl) rfl rfl dX6_search_78 ?_
  refine j_iload_n (pc' := 82) rfl rfl dX6_search_81 ?_
  obtain ⟨g14, hk⟩ := of_ite hk
  refine j_lald (pc' := 83) (hp_e rfl) (inR_in g14) rfl dX6_search_82 ?_
  refine j_ldc2 (pc' := 86) (v := (-1)) (gd_of (i := 369) (by decide +kernel) rfl) rfl dX6_search_83 ?_
  refine j_lcmp (pc' := 87) rfl dX6_search_86 ?_
  refine j_if_eq (pc' := 90) (tg := 94) rfl rfl dX6_search_87 (fun c15 => ?_) (fun c15 => ?_)
  · have hk := (if_pos c15).symm.trans hk
    refine j_iconst (pc' := 95) (v := 0) rfl rfl dX6_search_94 ?_
    obtain rfl := Option.some.inj hk
    exact j_zret rfl rfl ⟨rfl, rfl⟩ dX6_search_95 hP
  · have hk := (if_neg c15).symm.trans hk
    refine j_iconst (pc' := 91) (v := 1) rfl rfl dX6_search_90 ?_
    refine j_goto (tg := 95) rfl dX6_search_91 ?_
    obtain rfl := Option.some.inj hk
    exact j_zret rfl rfl ⟨rfl, rfl⟩ dX6_search_95 hP
theorem qT_search {σ : Mem} {x1 : Int32} {x2 : Int32} {x3 : Int32} {x4 : Int32} {o5 : Option AV} {res : Int32 × Mem} (hk : kT_search σ x1 x2 x3 x4 = some res) (hP : Po (some (vI res.1)) (hp res.2)) : J l D dA H0 YT_search h0 Po 0 0 (hp σ) 0 [some (vR (some (14, 0))), some (vI x1), some (vI x2), some (vI x3), some (vI x4), o5] [] := by
  unfold kT_search at hk
  refine j_iload_n (pc' := 1) rfl rfl dX6_search_0 ?_
  obtain ⟨⟨r1, σ2⟩, hx, hk⟩ := of_bind hk
  refine j_cs1 (pc' := 4) (LG_isWant hx) cs_RX6_30 ⟨le_b rfl, le_b rfl⟩ rfl (le_b rfl) ⟨rfl, rfl⟩ ⟨le_b rfl, le_b rfl⟩ rfl rfl dX6_search_1 ?_
  refine j_if_eq (pc' := 7) (tg := 15) rfl rfl dX6_search_4 (fun c17 => ?_) (fun c17 => ?_)
  · have hk := (if_pos c17).symm.trans hk
    refine j_iconst (pc' := 16) (v := 0) rfl rfl dX6_search_15 ?_
    obtain rfl := Option.some.inj hk
    exact j_zret rfl rfl ⟨rfl, rfl⟩ dX6_search_16 hP
  · have hk := (if_neg c17).symm.trans hk
    refine j_iload_n (pc' := 8) rfl rfl dX6_search_7 ?_
    refine j_iload_n (pc' := 9) rfl rfl dX6_search_8 ?_
    obtain ⟨⟨r3, σ4⟩, hx, hk⟩ := of_bind hk
    refine j_cs1 (pc' := 12) (LG_isSpan hx) cs_RX6_63 ⟨le_b rfl, le_b rfl⟩ rfl (le_b rfl) ⟨rfl, rfl⟩ ⟨le_b rfl, le_b rfl⟩ rfl rfl dX6_search_9 ?_
    refine j_if_ne (pc' := 15) (tg := 17) rfl rfl dX6_search_12 (fun c16 => ?_) (fun c16 => ?_)
    · have hk := (if_neg c16).symm.trans hk
      refine j_aload_n (pc' := 18) rfl rfl dX6_search_17 ?_
      refine j_getf (pc' := 21) fg_RX6_22 (hp_e rfl) rfl rfl dX6_search_18 ?_
      refine j_iload_n (pc' := 22) rfl rfl dX6_search_21 ?_
      refine j_lconst (pc' := 23) (v := 0) rfl rfl dX6_search_22 ?_
      obtain ⟨g5, hk⟩ := of_ite hk
      refine j_sl (pc' := 24) (fun _ _ _ => rfl) (inR_in g5) rfl dX6_search_23 ?_
      refine j_aload_n (pc' := 25) rfl rfl dX6_search_24 ?_
      refine j_getf (pc' := 28) fg_RX6_26 (hp_e rfl) rfl rfl dX6_search_25 ?_
      refine j_iload_n (pc' := 29) rfl rfl dX6_search_28 ?_
      refine j_iconst (pc' := 30) (v := 0) rfl rfl dX6_search_29 ?_
      obtain ⟨g6, hk⟩ := of_ite hk
      refine j_si (pc' := 31) (fun _ _ _ => rfl) (inR_in g6) rfl dX6_search_30 ?_
      refine j_iload_n (pc' := 32) rfl rfl dX6_search_31 ?_
      refine j_iconst (pc' := 33) (v := 1) rfl rfl dX6_search_32 ?_
      refine j_iadd (pc' := 34) rfl dX6_search_33 ?_
      refine j_istore (pc' := 36) (lt_b rfl) rfl rfl dX6_search_34 ?_
      obtain ⟨e, he, hk⟩ := of_bind hk
      refine lT_search_s36 FU _ _ e he ?_ ()
      · intro ς ee _ _ _ _
        subst ee
        exact qT_search_x77 hk hP
    · have hk := (if_pos c16).symm.trans hk
      refine j_iconst (pc' := 16) (v := 0) rfl rfl dX6_search_15 ?_
      obtain rfl := Option.some.inj hk
      exact j_zret rfl rfl ⟨rfl, rfl⟩ dX6_search_16 hP
theorem LT_search {σ σ' : Mem} {x1 : Int32} {x2 : Int32} {x3 : Int32} {x4 : Int32} {r : Int32} (hk : kT_search σ x1 x2 x3 x4 = some (r, σ')) : M l D dA H0 yX6_search YT_search [vR (some (14, 0)), vI x1, vI x2, vI x3, vI x4] (hp σ) (fun x h' => x = some (vI r) ∧ h' = hp σ') :=
  m_of (j := 1) (by decide) rfl (fun hh => by cases hh) ⟨fun _ _ => trivial, rfl⟩ (le_b rfl) (qT_search hk ⟨rfl, rfl⟩)
theorem qT_leastCost {σ : Mem} {x1 : Int32} {x2 : Int32} {x3 : Int32} {x4 : Int32} {res : Int64 × Mem} (hk : kT_leastCost σ x1 x2 x3 x4 = some res) (hP : Po (some (vL res.1)) (hp res.2)) : J l D dA H0 YT_leastCost h0 Po 0 0 (hp σ) 0 [some (vR (some (14, 0))), some (vI x1), some (vI x2), some (vI x3), some (vI x4)] [] := by
  unfold kT_leastCost at hk
  refine j_aload_n (pc' := 1) rfl rfl dX6_leastCost_0 ?_
  refine j_iload_n (pc' := 2) rfl rfl dX6_leastCost_1 ?_
  refine j_iload_n (pc' := 3) rfl rfl dX6_leastCost_2 ?_
  refine j_iload_n (pc' := 4) rfl rfl dX6_leastCost_3 ?_
  refine j_iload (pc' := 6) rfl rfl dX6_leastCost_4 ?_
  obtain ⟨⟨r1, σ2⟩, hx, hk⟩ := of_bind hk
  refine j_cv1 (pc' := 9) (LT_search hx) cv_RX6_76 ⟨le_b rfl, le_b rfl⟩ (hp_e rfl) rfl rfl (le_b rfl) ⟨rfl, rfl⟩ ⟨le_b rfl, le_b rfl⟩ rfl rfl dX6_leastCost_6 ?_
  refine j_if_eq (pc' := 12) (tg := 21) rfl rfl dX6_leastCost_9 (fun c4 => ?_) (fun c4 => ?_)
  · have hk := (if_pos c4).symm.trans hk
    refine j_ldc2 (pc' := 24) (v := (-1)) (gd_of (i := 369) (by decide +kernel) rfl) rfl dX6_leastCost_21 ?_
    obtain rfl := Option.some.inj hk
    exact j_lret rfl ⟨rfl, rfl⟩ dX6_leastCost_24 hP
  · have hk := (if_neg c4).symm.trans hk
    refine j_aload_n (pc' := 13) rfl rfl dX6_leastCost_12 ?_
    refine j_getf (pc' := 16) fg_RX6_22 (hp_e rfl) rfl rfl dX6_leastCost_13 ?_
    refine j_iload_n (pc' := 17) rfl rfl dX6_leastCost_16 ?_
    obtain ⟨g3, hk⟩ := of_ite hk
    refine j_lald (pc' := 18) (hp_e rfl) (inR_in g3) rfl dX6_leastCost_17 ?_
    refine j_goto (tg := 24) rfl dX6_leastCost_18 ?_
    obtain rfl := Option.some.inj hk
    exact j_lret rfl ⟨rfl, rfl⟩ dX6_leastCost_24 hP
theorem LT_leastCost {σ σ' : Mem} {x1 : Int32} {x2 : Int32} {x3 : Int32} {x4 : Int32} {r : Int64} (hk : kT_leastCost σ x1 x2 x3 x4 = some (r, σ')) : M l D dA H0 yX6_leastCost YT_leastCost [vR (some (14, 0)), vI x1, vI x2, vI x3, vI x4] (hp σ) (fun x h' => x = some (vL r) ∧ h' = hp σ') :=
  m_of (j := 0) (by decide) rfl (fun hh => by cases hh) ⟨fun _ _ => trivial, rfl⟩ (le_b rfl) (qT_leastCost hk ⟨rfl, rfl⟩)
theorem qT_leastParts {σ : Mem} {x1 : Int32} {x2 : Int32} {x3 : Int32} {x4 : Int32} {res : Int32 × Mem} (hk : kT_leastParts σ x1 x2 x3 x4 = some res) (hP : Po (some (vI res.1)) (hp res.2)) : J l D dA H0 YT_leastParts h0 Po 0 0 (hp σ) 0 [some (vR (some (14, 0))), some (vI x1), some (vI x2), some (vI x3), some (vI x4)] [] := by
  unfold kT_leastParts at hk
  refine j_aload_n (pc' := 1) rfl rfl dX6_leastParts_0 ?_
  refine j_iload_n (pc' := 2) rfl rfl dX6_leastParts_1 ?_
  refine j_iload_n (pc' := 3) rfl rfl dX6_leastParts_2 ?_
  refine j_iload_n (pc' := 4) rfl rfl dX6_leastParts_3 ?_
  refine j_iload (pc' := 6) rfl rfl dX6_leastParts_4 ?_
  obtain ⟨⟨r1, σ2⟩, hx, hk⟩ := of_bind hk
  refine j_cv1 (pc' := 9) (LT_search hx) cv_RX6_76 ⟨le_b rfl, le_b rfl⟩ (hp_e rfl) rfl rfl (le_b rfl) ⟨rfl, rfl⟩ ⟨le_b rfl, le_b rfl⟩ rfl rfl dX6_leastParts_6 ?_
  refine j_if_eq (pc' := 12) (tg := 21) rfl rfl dX6_leastParts_9 (fun c4 => ?_) (fun c4 => ?_)
  · have hk := (if_pos c4).symm.trans hk
    refine j_iconst (pc' := 22) (v := (-1)) rfl rfl dX6_leastParts_21 ?_
    obtain rfl := Option.some.inj hk
    exact j_iret rfl ⟨rfl, rfl⟩ dX6_leastParts_22 hP
  · have hk := (if_neg c4).symm.trans hk
    refine j_aload_n (pc' := 13) rfl rfl dX6_leastParts_12 ?_
    refine j_getf (pc' := 16) fg_RX6_26 (hp_e rfl) rfl rfl dX6_leastParts_13 ?_
    refine j_iload_n (pc' := 17) rfl rfl dX6_leastParts_16 ?_
    obtain ⟨g3, hk⟩ := of_ite hk
    refine j_iald (pc' := 18) (hp_e rfl) (inR_in g3) rfl dX6_leastParts_17 ?_
    refine j_goto (tg := 22) rfl dX6_leastParts_18 ?_
    obtain rfl := Option.some.inj hk
    exact j_iret rfl ⟨rfl, rfl⟩ dX6_leastParts_22 hP
theorem LT_leastParts {σ σ' : Mem} {x1 : Int32} {x2 : Int32} {x3 : Int32} {x4 : Int32} {r : Int32} (hk : kT_leastParts σ x1 x2 x3 x4 = some (r, σ')) : M l D dA H0 yX6_leastParts YT_leastParts [vR (some (14, 0)), vI x1, vI x2, vI x3, vI x4] (hp σ) (fun x h' => x = some (vI r) ∧ h' = hp σ') :=
  m_of (j := 0) (by decide) rfl (fun hh => by cases hh) ⟨fun _ _ => trivial, rfl⟩ (le_b rfl) (qT_leastParts hk ⟨rfl, rfl⟩)
end LINK
