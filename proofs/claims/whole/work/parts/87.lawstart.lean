/-! the start of the law -/
theorem gd_tbl {w : Cond} (h : w ∈ lw_gd) : w ∈ lw_tbl := (List.mem_filter.mp h).1
theorem nw_tbl {w : Cond} (h : w ∈ lw_nw) : w ∈ lw_tbl := (List.mem_filter.mp h).1
theorem kn_of {s : State} {args : Array Value} (hts : ∀ w ∈ lw_tbl, w.before args s = true) : ∀ c : Nat, ∃ (q : ClassId × (Nat → Nat)), ∀ r : vw_C, vwCl[c]? = some r → u_Kn s r.1 r.2.1 r.2.2 q.1 q.2 := by
  have hg : ∀ w ∈ lw_gd, w.before args s = true := fun w hw => hts w (gd_tbl hw)
  intro c
  match c with
  | 0 =>
    obtain ⟨a, f, h⟩ := u_known (C := RX0) (T := TX0) (N := 2) (n := 2) hg gdX0 (hg _ (gd_of (i := 85) (by decide +kernel) rfl))
    exact ⟨(a, f), fun r hr => by cases hr; exact h⟩
  | 1 =>
    obtain ⟨a, f, h⟩ := u_known (C := RX1) (T := TX1) (N := 2) (n := 2) hg gdX1 (hg _ (gd_of (i := 69) (by decide +kernel) rfl))
    exact ⟨(a, f), fun r hr => by cases hr; exact h⟩
  | 2 =>
    obtain ⟨a, f, h⟩ := u_known (C := RX2) (T := TX2) (N := 6) (n := 6) hg gdX2 (hg _ (gd_of (i := 125) (by decide +kernel) rfl))
    exact ⟨(a, f), fun r hr => by cases hr; exact h⟩
  | 3 =>
    obtain ⟨a, f, h⟩ := u_known (C := RX3) (T := TX3) (N := 8) (n := 8) hg gdX3 (hg _ (gd_of (i := 454) (by decide +kernel) rfl))
    exact ⟨(a, f), fun r hr => by cases hr; exact h⟩
  | 4 =>
    obtain ⟨a, f, h⟩ := u_known (C := RX4) (T := TX4) (N := 7) (n := 7) hg gdX4 (hg _ (gd_of (i := 214) (by decide +kernel) rfl))
    exact ⟨(a, f), fun r hr => by cases hr; exact h⟩
  | 5 =>
    obtain ⟨a, f, h⟩ := u_known (C := RX5) (T := TX5) (N := 4) (n := 4) hg gdX5 (hg _ (gd_of (i := 700) (by decide +kernel) rfl))
    exact ⟨(a, f), fun r hr => by cases hr; exact h⟩
  | 6 =>
    obtain ⟨a, f, h⟩ := u_known (C := RX6) (T := TX6) (N := 5) (n := 5) hg gdX6 (hg _ (gd_of (i := 151) (by decide +kernel) rfl))
    exact ⟨(a, f), fun r hr => by cases hr; exact h⟩
  | 7 =>
    obtain ⟨a, f, h⟩ := u_known (C := RX7) (T := TX7) (N := 5) (n := 5) hg gdX7 (hg _ (gd_of (i := 102) (by decide +kernel) rfl))
    exact ⟨(a, f), fun r hr => by cases hr; exact h⟩
  | 8 =>
    obtain ⟨a, f, h⟩ := u_known (C := RX8) (T := TX8) (N := 8) (n := 8) hg gdX8 (hg _ (gd_of (i := 61) (by decide +kernel) rfl))
    exact ⟨(a, f), fun r hr => by cases hr; exact h⟩
  | 9 =>
    obtain ⟨a, f, h⟩ := u_known (C := RX9) (T := TX9) (N := 35) (n := 35) hg gdX9 (hg _ (gd_of (i := 852) (by decide +kernel) rfl))
    exact ⟨(a, f), fun r hr => by cases hr; exact h⟩
  | c + 10 => exact ⟨(0, fun _ => 0), fun r hr => by cases hr⟩
theorem ao_of {s : State} {args : Array Value} {C : String} (h : (Cond.arrayOver (.object C)).before args s = true) : ∃ cA : ClassId, ArrOfT s cA (.object C) ∧ va_RA s cA (.object C) := by
  obtain ⟨comp, c, k, h1, -, h2, h3, h4⟩ := Cond.arrayOver_spec (show (Cond.arrayOver (.object C)).holds args s none s [] = true from h)
  exact ⟨c, fun n z => ⟨fun k h => (by cases h), k, h2, comp, h3⟩, k, comp, h2, h3, h1, h4⟩
theorem ar_of {s : State} {args : Array Value} : ∀ k : Nat, k < 7 → (∀ w ∈ lw_tbl, w.before args s = true) → ∃ cA : ClassId, ArrOfT s cA (tyA k) ∧ va_RA s cA (tyA k)
  | 0, _, hts => by
    obtain ⟨c, k, comp, h1, h2, h3⟩ := Cond.arrayClass_spec (show (Cond.arrayClass .int).holds args s none s [] = true from hts _ (gd_tbl (gd_of (i := 123) (by decide +kernel) rfl)))
    exact ⟨c, fun n z => ⟨fun k h => (by cases h), k, h2, comp, h3⟩, h1⟩
  | 1, _, hts => by
    obtain ⟨c, k, comp, h1, h2, h3⟩ := Cond.arrayClass_spec (show (Cond.arrayClass .long).holds args s none s [] = true from hts _ (gd_tbl (gd_of (i := 176) (by decide +kernel) rfl)))
    exact ⟨c, fun n z => ⟨fun k h => (by cases h), k, h2, comp, h3⟩, h1⟩
  | 2, _, hts => by
    obtain ⟨c, k, comp, h1, h2, h3⟩ := Cond.arrayClass_spec (show (Cond.arrayClass .boolean).holds args s none s [] = true from hts _ (gd_tbl (gd_of (i := 83) (by decide +kernel) rfl)))
    exact ⟨c, fun n z => ⟨fun k h => (by cases h), k, h2, comp, h3⟩, h1⟩
  | 3, _, hts => ao_of (hts _ (List.mem_of_getElem? (i := 75) (by decide +kernel)))
  | 4, _, hts => ao_of (hts _ (List.mem_of_getElem? (i := 91) (by decide +kernel)))
  | 5, _, hts => ao_of (hts _ (List.mem_of_getElem? (i := 159) (by decide +kernel)))
  | 6, _, hts => by
    obtain ⟨comp, c, k, h1, -, h2, h3, h4⟩ := arrayOverA_spec (show (Cond.arrayOver (.array .int)).holds args s none s [] = true from hts _ (List.mem_of_getElem? (i := 157) (by decide +kernel)))
    exact ⟨c, fun n z => ⟨fun k h => (by cases h), k, h2, comp, h3⟩, h4⟩
  | k + 7, h, _ => absurd h (by omega)
theorem KK_start {s : State} {args : Array Value} (hts : ∀ w ∈ lw_tbl, w.before args s = true) : ∃ (D : va_G) (dA : Nat → ClassId), KK D dA s := by
  obtain ⟨f, hf⟩ := Classical.axiomOfChoice (kn_of hts)
  have h1 : ∀ k : Nat, ∃ cA : ClassId, k < 7 → ArrOfT s cA (tyA k) ∧ va_RA s cA (tyA k) := fun k => by
    by_cases hk : k < 7
    · obtain ⟨c, h⟩ := ar_of k hk hts
      exact ⟨c, fun _ => h⟩
    · exact ⟨0, fun h => absurd h hk⟩
  obtain ⟨g, hg⟩ := Classical.axiomOfChoice h1
  refine ⟨(fun c => (f c).1, fun c => (f c).2), g, ⟨⟨fun c q hq => hf c q hq, fun k q hq => by cases hq⟩, hg⟩, fun w hw => va_Nw.of (nw_on hw) (hts w (nw_tbl hw)), ⟨va_AO.of (hts _ (List.mem_of_getElem? (i := 75) (by decide +kernel))), va_AO.of (hts _ (List.mem_of_getElem? (i := 91) (by decide +kernel))), va_AO.of (hts _ (List.mem_of_getElem? (i := 159) (by decide +kernel)))⟩, ?_⟩
  exact hts (Cond.arrayOver (.array .int)) (List.mem_of_getElem? (i := 157) (by decide +kernel))
theorem XK_start {s : State} {args : Array Value} (hts : ∀ w ∈ lw_tbl, w.before args s = true) (hgv : (Jvm.Cond.and given_1 narrow_1).before args s = true) : XK s.heap s := by
  have hs := flat_of_before _ hgv
  have hini : (Cond.initialized Bundle.tN).before args s = true := hts _ (List.mem_of_getElem? (i := 54) (by decide +kernel))
  have hA : ∀ a : Nat, a < s.heap.size → ¬ s.heap.size ≤ a := fun a h => by omega
  have str : ∀ (k : Nat) (tx : String), (Cond.stringRef RX8 k tx).before args s = true → (Cond.exactly (.string RX8 k) "java/lang/String").before args s = true → ∃ sa, vk_R RX8 k tx sa s := fun k tx h1 h2 => by
    obtain ⟨a, _, _, _, h3, -⟩ := Cond.exactly_spec (show (Cond.exactly (.string RX8 k) "java/lang/String").holds args s none s [] = true from h2)
    exact ⟨a, vk_R.of h1 h3⟩
  refine ⟨vx_Zqof (hts _ (List.mem_of_getElem? (i := 803) (by decide +kernel))) hini (hs _ (by decide +kernel)) hA, vx_Zqof (hts _ (List.mem_of_getElem? (i := 805) (by decide +kernel))) hini (hs _ (by decide +kernel)) hA, ?_, ?_⟩
  · exact str _ _ (hts _ (List.mem_of_getElem? (i := 815) (by decide +kernel))) (hs _ (by decide +kernel))
  · exact str _ _ (hts _ (List.mem_of_getElem? (i := 846) (by decide +kernel))) (hs _ (by decide +kernel))
section LAWSTART
variable {l : Launch} {D : va_G} {dA : Nat → ClassId} {H0 : Heap} {Po : Option AV → Hp → Prop} {b L : Nat} {xs : Nat → Int32}
set_option maxRecDepth 100000 in
theorem ci_RL_15 : CI RL 15 yX8_init YG_init 0 := ⟨⟨Or.inl (gd_of (i := 62) (by decide +kernel) rfl), gd_of (i := 42) (by decide +kernel) rfl, gd_of (i := 64) rfl rfl, by decide, by decide, by decide +kernel⟩, rfl, gd_of (i := 63) (by decide +kernel) rfl, rfl⟩
set_option maxRecDepth 100000 in
theorem ci_RL_18 : CI RL 18 yX9_init YM_init 0 := ⟨⟨Or.inl (gd_of (i := 853) (by decide +kernel) rfl), gd_of (i := 48) (by decide +kernel) rfl, gd_of (i := 855) rfl rfl, by decide, by decide, by decide +kernel⟩, rfl, gd_of (i := 854) (by decide +kernel) rfl, rfl⟩
theorem cl_RL_8 : Cond.classLink RL 8 RX8 ∈ lw_gd := gd_of (i := 60) (by decide +kernel) rfl
theorem cl_RL_16 : Cond.classLink RL 16 RX9 ∈ lw_gd := gd_of (i := 851) (by decide +kernel) rfl
set_option maxRecDepth 8000 in
theorem law_J (hl : l.stackTraces = false) (hL : L ≤ 3072) (hPo : ∀ h, Po (some (vI 1)) h) : J l D dA H0 (YW l H0 b L xs) (nx hp0) Po 0 0 hp0 0 (List.replicate 8 none) [] := by
  refine j_new (1, 0) (pc' := 3) (c := 8) (fs := [vR none, vR none, vR none, vR none, vR none, vI 0, vI 0, vI 0]) rfl rfl gdX8 tyX8 tyX8_ok ⟨cl_RL_8, gd_of (i := 61) (by decide +kernel) rfl, gd_of (i := 42) (by decide +kernel) rfl⟩ (by decide) (fun _ => by simp [okE, okV]) ⟨le_b rfl, le_b rfl⟩ rfl dL_law_0 ?_
  refine j_dup (pc' := 4) rfl rfl dL_law_3 ?_
  refine j_callI (pc' := 7) LG_init ci_RL_15 ⟨le_b rfl, le_b rfl⟩ rfl (le_b rfl) ⟨le_b rfl, le_b rfl⟩ rfl rfl dL_law_4 (fun _ _ hPq => ?_)
  obtain ⟨rfl, rfl⟩ := hPq
  refine j_astore_n (pc' := 8) (lt_b rfl) rfl rfl dL_law_7 ?_
  refine j_new (30, 0) (pc' := 11) (c := 9) (fs := [vI 0, vR none, vR none, vR none, vR none, vR none, vR none, vR none, vI 0, vI 0, vR none, vR none, vR none, vR none, vR none, vR none, vR none, vR none, vR none, vR none, vI 0, vR none, vI 0, vR none, vR none, vR none, vR none, vR none, vR none, vR none, vR none, vR none, vI 0, vR none, vR none]) rfl rfl gdX9 tyX9 tyX9_ok ⟨cl_RL_16, gd_of (i := 852) (by decide +kernel) rfl, gd_of (i := 48) (by decide +kernel) rfl⟩ (by decide) (fun _ => by simp [okE, okV]) ⟨le_b rfl, le_b rfl⟩ rfl dL_law_8 ?_
  refine j_dup (pc' := 12) rfl rfl dL_law_11 ?_
  refine j_callI (pc' := 15) (LM_init rfl rfl rfl rfl rfl rfl rfl rfl rfl rfl rfl rfl rfl rfl rfl rfl rfl rfl rfl rfl rfl rfl rfl rfl rfl rfl rfl rfl rfl rfl) ci_RL_18 ⟨le_b rfl, le_b rfl⟩ rfl (le_b rfl) ⟨le_b rfl, le_b rfl⟩ rfl rfl dL_law_12 (fun _ _ hPq => ?_)
  obtain ⟨rfl, rfl⟩ := hPq
  refine j_astore_n (pc' := 16) (lt_b rfl) rfl rfl dL_law_15 ?_
  refine j_iconst (pc' := 17) (v := 1) rfl rfl dL_law_16 ?_
  refine j_newa (0, 0) (pc' := 19) (a := 1) (aa := .inr (.inl (fun _ => 0))) (N := 1) rfl ⟨by decide, rfl⟩ (gd_of (i := 176) (by decide +kernel) rfl) ⟨by decide, by decide⟩ (by decide) ⟨(fun _ _ => rfl), fun _ => trivial⟩ ⟨le_b rfl, le_b rfl⟩ rfl dL_law_17 ?_
  refine j_astore_n (pc' := 20) (lt_b rfl) rfl rfl dL_law_19 ?_
  refine j_iconst (pc' := 21) (v := 0) rfl rfl dL_law_20 ?_
  refine j_istore (pc' := 23) (lt_b rfl) rfl rfl dL_law_21 ?_
  refine j_wide (k' := 100) (n' := 5000) (le_b rfl) (le_b rfl) ?_
  show J l D dA H0 (YW l H0 b L xs) (nx hp0) Po (100 + 8 * 0) (5000 + 80 * 0) start0 23 (LO (nI (6 * 0)) none none none) []
  rw [start0_hp]
  exact law_loop hl hL hPo 512 0 rfl mem1 none none none mem1_INV
end LAWSTART
