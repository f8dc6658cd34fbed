section LAWPRO
variable {l : Launch} {D : va_G} {dA : Nat → ClassId} {H0 : Heap} {h0 : Hx} {Po : Option AV → Hp → Prop} {b L : Nat} {xs : Nat → Int32}
/-- promised: the law's own method, the reference, its flag, the answers -/
theorem lc_promised (hl : l.stackTraces = false) : LC l D dA H0 b L xs h0 Po 775 := by
  intro t i σ o5 o6 o7 ht hv hI kk
  refine j_aload_n (pc' := 776) rfl rfl dL_law_775 ?_
  refine j_arg (v := 1) (pc' := 782) rfl rfl hv.1 rfl dL_law_776 dL_law_777 dL_law_779 dL_law_780 dL_law_781 ?_
  refine j_arg (v := 2) (pc' := 788) rfl rfl hv.2.1 rfl dL_law_782 dL_law_783 dL_law_785 dL_law_786 dL_law_787 ?_
  refine j_aload_n (pc' := 789) rfl rfl dL_law_788 ?_
  rcases E_prom2 (x1 := xs (i + 1).toNatClampNeg) (x2 := xs (i + 2).toNatClampNeg) hI with ⟨v, e1, e2, hI2⟩ | ⟨⟨o, ea, ho⟩, e2, hI2⟩
  · refine j_lp (pc' := 792) (LL_ok hl e1) rfl (le_b rfl) (rm_w (l := l) (H0 := H0) (b := b) (L := L) (xs := xs) (c := 1) (s := 6) ht (le_b rfl) (le_b rfl)) rfl rfl dL_law_789 ?_
    refine j_wide (k' := 100 + 8 * t + 4) (n' := 5000 + 80 * t + 70) (Nat.add_le_add_left (le_b rfl) _) (Nat.add_le_add_left (le_b rfl) _) ?_
    refine j_istore (pc' := 794) (lt_b rfl) rfl rfl dL_law_792 ?_
    refine j_aload_n (pc' := 795) rfl rfl dL_law_794 ?_
    refine j_arg (v := 1) (pc' := 801) rfl rfl hv.1 rfl dL_law_795 dL_law_796 dL_law_798 dL_law_799 dL_law_800 ?_
    refine j_arg (v := 2) (pc' := 807) rfl rfl hv.2.1 rfl dL_law_801 dL_law_802 dL_law_804 dL_law_805 dL_law_806 ?_
    refine j_callV (pc' := 810) (LM_promised e2) cv_RL_92 ⟨le_b rfl, le_b rfl⟩ (hp_e rfl) rfl rfl (le_b rfl) (rm_w2 ht (le_b rfl) (le_b rfl)) rfl rfl dL_law_807 (fun _ _ hPq => ?_)
    obtain ⟨rfl, rfl⟩ := hPq
    refine j_lstore (pc' := 812) (lt_b rfl) rfl rfl dL_law_810 ?_
    refine j_aload_n (pc' := 813) rfl rfl dL_law_812 ?_
    refine j_callV (pc' := 816) (LM_thrown rfl) cv_RL_93 ⟨le_b rfl, le_b rfl⟩ (hp_e rfl) rfl rfl (le_b rfl) (rm_w2 ht (le_b rfl) (le_b rfl)) rfl rfl dL_law_813 (fun _ _ hPq => ?_)
    obtain ⟨rfl, rfl⟩ := hPq
    refine j_iload (pc' := 818) rfl rfl dL_law_816 ?_
    refine j_ic_eq (tg := 823) (pc' := 821) rfl rfl dL_law_818 (fun _ => ?_) (fun hne => absurd rfl hne)
    refine j_iload (pc' := 825) rfl rfl dL_law_823 ?_
    refine j_if_ne (tg := 839) (pc' := 828) rfl rfl dL_law_825 (fun hne => absurd rfl hne) (fun _ => ?_)
    refine j_aload_n (pc' := 829) rfl rfl dL_law_828 ?_
    refine j_iconst (pc' := 830) (v := 0) rfl rfl dL_law_829 ?_
    refine j_lald (pc' := 831) (N := 1) (f := mL (sI (sL σ 0 0 0 v) 30 0 0 0) 0 0) (hp_e rfl) (show vp_in 0 1 by unfold vp_in; decide) rfl dL_law_830 ?_
    refine j_lload (pc' := 833) rfl rfl dL_law_831 ?_
    refine j_lcmp (pc' := 834) rfl dL_law_833 ?_
    refine j_if_eq (tg := 839) (pc' := 837) rfl rfl dL_law_834 (fun _ => ?_) (fun hne => absurd cmp_self hne)
    refine j_goto (tg := 1312) rfl dL_law_839 ?_
    exact j_wide (nxt_le ht).1 (nxt_le ht).2 (kk _ _ _ _ hI2)
  · refine j_lp (pc' := 792) (LL_throw hl (fun _ => LG_promised_x hl ea ho)) rfl (le_b rfl) (rm_w (l := l) (H0 := H0) (b := b) (L := L) (xs := xs) (c := 1) (s := 6) ht (le_b rfl) (le_b rfl)) rfl rfl dL_law_789 ?_
    refine j_wide (k' := 100 + 8 * t + 4) (n' := 5000 + 80 * t + 70) (Nat.add_le_add_left (le_b rfl) _) (Nat.add_le_add_left (le_b rfl) _) ?_
    refine j_istore (pc' := 794) (lt_b rfl) rfl rfl dL_law_792 ?_
    refine j_aload_n (pc' := 795) rfl rfl dL_law_794 ?_
    refine j_arg (v := 1) (pc' := 801) rfl rfl hv.1 rfl dL_law_795 dL_law_796 dL_law_798 dL_law_799 dL_law_800 ?_
    refine j_arg (v := 2) (pc' := 807) rfl rfl hv.2.1 rfl dL_law_801 dL_law_802 dL_law_804 dL_law_805 dL_law_806 ?_
    refine j_callV (pc' := 810) (LM_promised e2) cv_RL_92 ⟨le_b rfl, le_b rfl⟩ (hp_e rfl) rfl rfl (le_b rfl) (rm_w2 ht (le_b rfl) (le_b rfl)) rfl rfl dL_law_807 (fun _ _ hPq => ?_)
    obtain ⟨rfl, rfl⟩ := hPq
    refine j_lstore (pc' := 812) (lt_b rfl) rfl rfl dL_law_810 ?_
    refine j_aload_n (pc' := 813) rfl rfl dL_law_812 ?_
    refine j_callV (pc' := 816) (LM_thrown rfl) cv_RL_93 ⟨le_b rfl, le_b rfl⟩ (hp_e rfl) rfl rfl (le_b rfl) (rm_w2 ht (le_b rfl) (le_b rfl)) rfl rfl dL_law_813 (fun _ _ hPq => ?_)
    obtain ⟨rfl, rfl⟩ := hPq
    refine j_iload (pc' := 818) rfl rfl dL_law_816 ?_
    refine j_ic_eq (tg := 823) (pc' := 821) rfl rfl dL_law_818 (fun _ => ?_) (fun hne => absurd rfl hne)
    refine j_iload (pc' := 825) rfl rfl dL_law_823 ?_
    refine j_if_ne (tg := 839) (pc' := 828) rfl rfl dL_law_825 (fun _ => ?_) (fun h => absurd h (by decide))
    refine j_goto (tg := 1312) rfl dL_law_839 ?_
    exact j_wide (nxt_le ht).1 (nxt_le ht).2 (kk _ _ _ _ hI2)
end LAWPRO
