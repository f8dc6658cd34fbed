theorem and31 (w : Int32) : ∃ k : Nat, k < 32 ∧ w &&& 31 = nI k := by
  have h0 : (w &&& 31).toBitVec = w.toBitVec &&& 31#32 := rfl
  have hk : (w &&& 31).toBitVec.toNat ≤ 31 := by
    rw [h0, BitVec.toNat_and]
    exact Nat.and_le_right
  refine ⟨(w &&& 31).toBitVec.toNat, by omega, ?_⟩
  refine Int32.toBitVec_inj.mp ?_
  show (w &&& 31).toBitVec = BitVec.ofNat 32 (w &&& 31).toBitVec.toNat
  rw [BitVec.ofNat_toNat, BitVec.setWidth_eq]
theorem sub6 : ∀ L, L < 6 → Int32.ofNat L - 6 < 0 := by decide +kernel
theorem lp_end {L t : Nat} (hL : L ≤ 3072) (ht : t ≤ 512) (h : ¬ Int32.ofNat L - 6 < nI (6 * t)) : 6 * t + 6 ≤ L := by
  by_cases h6 : L < 6
  · exact absurd (Int32.lt_of_lt_of_le (sub6 L h6) (nI_pos' (by omega))) h
  · have e : Int32.ofNat L - 6 = nI (L - 6) := by
      have h1 : nI (L - 6) + 6 = nI L := by
        rw [show (6 : Int32) = nI 6 from rfl, nI_add, show L - 6 + 6 = L by omega]
      show nI L - 6 = nI (L - 6)
      rw [← h1, Int32.add_sub_cancel]
    rw [e, nI_ltI (by omega) (by omega)] at h
    omega
section LAWLOOP
variable {l : Launch} {D : va_G} {dA : Nat → ClassId} {H0 : Heap} {h0 : Hx} {Po : Option AV → Hp → Prop} {b L : Nat} {xs : Nat → Int32}
/-- the switch: the case that the script's number names -/
theorem law_switch (hl : l.stackTraces = false) {t : Nat} {i w : Int32} {σ : Mem} {o5 o6 o7 : Option AV} (ht : t < 512) (hv : vp_in (i + 1) L ∧ vp_in (i + 2) L ∧ vp_in (i + 3) L ∧ vp_in (i + 4) L ∧ vp_in (i + 5) L) (hI : INV σ) (kk : ∀ σ' o5 o6 o7, INV σ' → J l D dA H0 (YW l H0 b L xs) h0 Po (100 + 8 * (t + 1)) (5000 + 80 * (t + 1)) (hp σ') 1312 (LO i o5 o6 o7) []) : J l D dA H0 (YW l H0 b L xs) h0 Po (100 + 8 * t) (5000 + 80 * t) (hp σ) 40 (LO i o5 o6 o7) [vI (w &&& 31)] := by
  obtain ⟨k, hk, e⟩ := and31 w
  rw [e]
  by_cases h28 : 28 ≤ k
  · refine j_tout (tg := 1312) (Or.inr (by rw [nI_toInt (by omega)]; omega)) rfl dL_law_40 ?_
    exact j_wide (by omega) (by omega) (kk σ o5 o6 o7 hI)
  · have hc : k = 0 ∨ k = 1 ∨ k = 2 ∨ k = 3 ∨ k = 4 ∨ k = 5 ∨ k = 6 ∨ k = 7 ∨ k = 8 ∨ k = 9 ∨ k = 10 ∨ k = 11 ∨ k = 12 ∨ k = 13 ∨ k = 14 ∨ k = 15 ∨ k = 16 ∨ k = 17 ∨ k = 18 ∨ k = 19 ∨ k = 20 ∨ k = 21 ∨ k = 22 ∨ k = 23 ∨ k = 24 ∨ k = 25 ∨ k = 26 ∨ k = 27 := by omega
    rcases hc with rfl | rfl | rfl | rfl | rfl | rfl | rfl | rfl | rfl | rfl | rfl | rfl | rfl | rfl | rfl | rfl | rfl | rfl | rfl | rfl | rfl | rfl | rfl | rfl | rfl | rfl | rfl | rfl
    · exact j_tin (v := 0) (tg := 168) rfl ⟨⟨by decide, by decide⟩, rfl, rfl⟩ dL_law_40 (lc_room t i σ o5 o6 o7 ht hv hI kk)
    · exact j_tin (v := 1) (tg := 241) rfl ⟨⟨by decide, by decide⟩, rfl, rfl⟩ dL_law_40 (lc_store t i σ o5 o6 o7 ht hv hI kk)
    · exact j_tin (v := 2) (tg := 266) rfl ⟨⟨by decide, by decide⟩, rfl, rfl⟩ dL_law_40 (lc_door t i σ o5 o6 o7 ht hv hI kk)
    · exact j_tin (v := 3) (tg := 291) rfl ⟨⟨by decide, by decide⟩, rfl, rfl⟩ dL_law_40 (lc_shut t i σ o5 o6 o7 ht hv hI kk)
    · exact j_tin (v := 4) (tg := 368) rfl ⟨⟨by decide, by decide⟩, rfl, rfl⟩ dL_law_40 (lc_open t i σ o5 o6 o7 ht hv hI kk)
    · exact j_tin (v := 5) (tg := 405) rfl ⟨⟨by decide, by decide⟩, rfl, rfl⟩ dL_law_40 (lc_close t i σ o5 o6 o7 ht hv hI kk)
    · exact j_tin (v := 6) (tg := 430) rfl ⟨⟨by decide, by decide⟩, rfl, rfl⟩ dL_law_40 (lc_look t i σ o5 o6 o7 ht hv hI kk)
    · exact j_tin (v := 7) (tg := 467) rfl ⟨⟨by decide, by decide⟩, rfl, rfl⟩ dL_law_40 (lc_night t i σ o5 o6 o7 ht hv hI kk)
    · exact j_tin (v := 8) (tg := 504) rfl ⟨⟨by decide, by decide⟩, rfl, rfl⟩ dL_law_40 (lc_can t i σ o5 o6 o7 ht hv hI kk)
    · exact j_tin (v := 9) (tg := 565) rfl ⟨⟨by decide, by decide⟩, rfl, rfl⟩ dL_law_40 (lc_promise t i σ o5 o6 o7 ht hv hI kk)
    · exact j_tin (v := 10) (tg := 638) rfl ⟨⟨by decide, by decide⟩, rfl, rfl⟩ dL_law_40 (lc_firm t i σ o5 o6 o7 ht hv hI kk)
    · exact j_tin (v := 11) (tg := 663) rfl ⟨⟨by decide, by decide⟩, rfl, rfl⟩ dL_law_40 (lc_cancel t i σ o5 o6 o7 ht hv hI kk)
    · exact j_tin (v := 12) (tg := 688) rfl ⟨⟨by decide, by decide⟩, rfl, rfl⟩ dL_law_40 (lc_change t i σ o5 o6 o7 ht hv hI kk)
    · exact j_tin (v := 13) (tg := 737) rfl ⟨⟨by decide, by decide⟩, rfl, rfl⟩ dL_law_40 (lc_come t i σ o5 o6 o7 ht hv hI kk)
    · exact j_tin (v := 14) (tg := 762) rfl ⟨⟨by decide, by decide⟩, rfl, rfl⟩ dL_law_40 (lc_next t i σ o5 o6 o7 ht hv hI kk)
    · exact j_tin (v := 15) (tg := 775) rfl ⟨⟨by decide, by decide⟩, rfl, rfl⟩ dL_law_40 ((lc_promised hl) t i σ o5 o6 o7 ht hv hI kk)
    · exact j_tin (v := 16) (tg := 842) rfl ⟨⟨by decide, by decide⟩, rfl, rfl⟩ dL_law_40 (lc_spot t i σ o5 o6 o7 ht hv hI kk)
    · exact j_tin (v := 17) (tg := 879) rfl ⟨⟨by decide, by decide⟩, rfl, rfl⟩ dL_law_40 (lc_moves t i σ o5 o6 o7 ht hv hI kk)
    · exact j_tin (v := 18) (tg := 892) rfl ⟨⟨by decide, by decide⟩, rfl, rfl⟩ dL_law_40 (lc_floors t i σ o5 o6 o7 ht hv hI kk)
    · exact j_tin (v := 19) (tg := 941) rfl ⟨⟨by decide, by decide⟩, rfl, rfl⟩ dL_law_40 (lc_lacks t i σ o5 o6 o7 ht hv hI kk)
    · exact j_tin (v := 20) (tg := 966) rfl ⟨⟨by decide, by decide⟩, rfl, rfl⟩ dL_law_40 (lc_rooms t i σ o5 o6 o7 ht hv hI kk)
    · exact j_tin (v := 21) (tg := 1015) rfl ⟨⟨by decide, by decide⟩, rfl, rfl⟩ dL_law_40 (lc_over t i σ o5 o6 o7 ht hv hI kk)
    · exact j_tin (v := 22) (tg := 1040) rfl ⟨⟨by decide, by decide⟩, rfl, rfl⟩ dL_law_40 (lc_price t i σ o5 o6 o7 ht hv hI kk)
    · exact j_tin (v := 23) (tg := 1101) rfl ⟨⟨by decide, by decide⟩, rfl, rfl⟩ dL_law_40 (lc_rule t i σ o5 o6 o7 ht hv hI kk)
    · exact j_tin (v := 24) (tg := 1150) rfl ⟨⟨by decide, by decide⟩, rfl, rfl⟩ dL_law_40 (lc_drop t i σ o5 o6 o7 ht hv hI kk)
    · exact j_tin (v := 25) (tg := 1175) rfl ⟨⟨by decide, by decide⟩, rfl, rfl⟩ dL_law_40 (lc_cost t i σ o5 o6 o7 ht hv hI kk)
    · exact j_tin (v := 26) (tg := 1225) rfl ⟨⟨by decide, by decide⟩, rfl, rfl⟩ dL_law_40 (lc_least t i σ o5 o6 o7 ht hv hI kk)
    · exact j_tin (v := 27) (tg := 1287) rfl ⟨⟨by decide, by decide⟩, rfl, rfl⟩ dL_law_40 (lc_count t i σ o5 o6 o7 ht hv hI kk)
/-- the loop -/
theorem law_loop (hl : l.stackTraces = false) (hL : L ≤ 3072) (hPo : ∀ h, Po (some (vI 1)) h) : ∀ (m t : Nat), t + m = 512 → ∀ (σ : Mem) (o5 o6 o7 : Option AV), INV σ → J l D dA H0 (YW l H0 b L xs) h0 Po (100 + 8 * t) (5000 + 80 * t) (hp σ) 23 (LO (nI (6 * t)) o5 o6 o7) [] := by
  intro m
  induction m with
  | zero =>
    intro t hm σ o5 o6 o7 hI
    refine j_iload (pc' := 25) rfl rfl dL_law_23 ?_
    refine j_slen (pc' := 27) rfl dL_law_25 dL_law_26 ?_
    refine j_bipush (pc' := 29) (v := 6) rfl rfl dL_law_27 ?_
    refine j_isub (pc' := 30) rfl dL_law_29 ?_
    refine j_ic_gt (tg := 1318) (pc' := 33) rfl rfl dL_law_30 (fun _ => ?_) (fun h => ?_)
    · refine j_wide (k' := 601024) (n' := 7293034) (by omega) (by omega) ?_
      refine j_iconst (pc' := 1319) (v := 1) rfl rfl dL_law_1318 ?_
      exact j_zret rfl rfl ⟨rfl, rfl⟩ dL_law_1319 (hPo _)
    · exact absurd (lp_end hL (by omega) h) (by omega)
  | succ m ih =>
    intro t hm σ o5 o6 o7 hI
    refine j_iload (pc' := 25) rfl rfl dL_law_23 ?_
    refine j_slen (pc' := 27) rfl dL_law_25 dL_law_26 ?_
    refine j_bipush (pc' := 29) (v := 6) rfl rfl dL_law_27 ?_
    refine j_isub (pc' := 30) rfl dL_law_29 ?_
    refine j_ic_gt (tg := 1318) (pc' := 33) rfl rfl dL_law_30 (fun _ => ?_) (fun h => ?_)
    · refine j_wide (k' := 601024) (n' := 7293034) (by omega) (by omega) ?_
      refine j_iconst (pc' := 1319) (v := 1) rfl rfl dL_law_1318 ?_
      exact j_zret rfl rfl ⟨rfl, rfl⟩ dL_law_1319 (hPo _)
    · have hi := lp_end hL (by omega) h
      have hv : ∀ j, j < 6 → vp_in (nI (6 * t) + nI j) L := fun j hj => by
        rw [nI_add]
        exact vp_in_nI (by omega) (by omega)
      refine j_sld (pc' := 37) rfl (by have := hv 0 (by omega); rw [nI_add] at this; exact this) rfl dL_law_33 dL_law_34 dL_law_36 ?_
      refine j_bipush (pc' := 39) (v := 31) rfl rfl dL_law_37 ?_
      refine j_iand (pc' := 40) rfl dL_law_39 ?_
      refine law_switch hl (by omega) ⟨hv 1 (by omega), hv 2 (by omega), hv 3 (by omega), hv 4 (by omega), hv 5 (by omega)⟩ hI (fun σ' o5 o6 o7 hI' => ?_)
      refine j_iinc (pc' := 1315) (v := nI (6 * (t + 1))) rfl (nI_add (6 * t) 6) (lt_b rfl) rfl rfl dL_law_1312 ?_
      refine j_goto (tg := 23) rfl dL_law_1315 ?_
      exact ih (t + 1) (by omega) σ' o5 o6 o7 hI'
end LAWLOOP
