theorem pf_no {H : HV} {tk : TK} {p : Nat} (hW : WH H) (hp : p < 16) (ho : H.1 p = true) (h : H.2.1 p ≠ 1) : pf H tk p = false := by
  obtain ⟨-, -, -, -, hd⟩ := hW.2 p hp ho
  rcases hd with hd | hd | hd
  · unfold pf
    rw [hd]
    rfl
  · exact absurd hd.2.2.1 h
  · exact absurd hd.2.2.1 h
theorem FK_pos {H : HV} {tk : TK} {k : Nat} (h : 0 < FK H tk k) : ∃ p b, p < 16 ∧ b < 6 ∧ H.2.1 p = k ∧ fu H tk p b = true := by
  refine Classical.byContradiction fun hn => ?_
  have h1 : FK H tk k ≤ 16 * 0 := fb_sm_bound fun p hp => by
    by_cases e : H.2.1 p = k
    · rw [if_pos e]
      refine Nat.le_of_eq (fb_ct_zero.mpr fun b hb => ?_)
      cases e2 : fu H tk p b with
      | false => rfl
      | true => exact absurd ⟨p, b, hp, hb, e, e2⟩ hn
    · rw [if_neg e]
      exact Nat.le_refl 0
  omega
theorem fu_b0 {H : HV} {tk : TK} {p b : Nat} (hW : WH H) (hp : p < 16) (h : fu H tk p b = true) (hk : H.2.1 p ≠ 3) : b = 0 := by
  have h1 := fu_iff.mp h
  have h2 := (hW.2 p hp h1.1).2.1 hk
  omega
theorem give_ok {H : HV} {w s : Nat} {tk : TK} {nd : ND} (h1 : suS H w s = true) (h2 : frS H tk s = true) (h3 : fit H (tkS tk s) (nds nd w (nd w - 1)) = true) : (give H w s (tk, nd)).isSome = true := by
  unfold give
  rw [if_pos ⟨h1, h2, h3⟩]
  rfl
theorem code_u {p b : Nat} (hb : b < 8) : (32 * p + 4 * b) / 32 = p ∧ (32 * p + 4 * b) % 32 / 4 = b ∧ (32 * p + 4 * b) % 4 = 0 := by omega
theorem hall_u {H : HV} {tk : TK} {nd : ND} {w p b : Nat} (hW : WH H) (hw : w < 4) (hp : p < 16) (hb : b < 6) (hu : fu H tk p b = true) (hk : H.2.1 p = 3 ↔ w = 0) (h2 : w = 2 → H.2.1 p ≠ 0) (h3 : w = 3 → H.2.1 p = 2) (hfit : fit H (tks tk p b true) (nds nd w (nd w - 1)) = true) : ∃ s, s < 512 ∧ (give H w s (tk, nd)).isSome = true := by
  obtain ⟨c1, c2, c3⟩ := code_u (p := p) (b := b) (by omega)
  have hf := fu_iff.mp hu
  refine ⟨32 * p + 4 * b, by omega, give_ok ?_ ?_ ?_⟩
  · unfold suS
    rw [c1, c2, c3]
    simp only [Bool.and_eq_true, decide_eq_true_eq]
    refine ⟨hf.1, by omega, by omega, ⟨fun h => by omega, fun h => by omega⟩, hk, hf.2.1, h2, h3, fun h => by omega⟩
  · unfold frS
    rw [c1, c2, c3, hu]
    rfl
  · unfold tkS
    rw [c1, c2, c3, if_neg (by omega)]
    exact hfit
theorem fit_u {H : HV} {tk : TK} {nd : ND} {w p b : Nat} (hW : WH H) (hp : p < 16) (hb : b < 6) (hu : fu H tk p b = true) (hw : w < 4) (hn : 1 ≤ nd w) (hf : fit H tk nd = true)
    (hc : (w = 0 ∧ H.2.1 p = 3) ∨ (w = 3 ∧ H.2.1 p = 2) ∨ (w = 1 ∧ H.2.1 p = 0) ∨ ((w = 2 ∨ w = 1 ∧ FK H tk 0 = 0) ∧ H.2.1 p = 2 ∧ nd 3 < FK H tk 2) ∨ ((w = 2 ∨ w = 1 ∧ FK H tk 0 = 0) ∧ H.2.1 p = 1 ∧ (pf H tk p = false ∨ nd 4 < FS H tk))) : fit H (tks tk p b true) (nds nd w (nd w - 1)) = true := by
  have e0 := FK_tks hp hb hu 0
  have e1 := FK_tks hp hb hu 1
  have e2 := FK_tks hp hb hu 2
  have e3 := FK_tks hp hb hu 3
  have es := FS_tks hW hu
  have ho := (fu_iff.mp hu).1
  unfold fit at hf ⊢
  simp only [decide_eq_true_eq] at hf ⊢
  rcases hc with ⟨rfl, hk⟩ | ⟨rfl, hk⟩ | ⟨rfl, hk⟩ | ⟨hw2, hk, h4⟩ | ⟨hw2, hk, h4⟩
  · rw [hk] at e0 e1 e2 e3
    rw [pf_no hW hp ho (by omega)] at es
    simp at e0 e1 e2 e3 es
    simp [nds]
    omega
  · rw [hk] at e0 e1 e2 e3
    rw [pf_no hW hp ho (by omega)] at es
    simp at e0 e1 e2 e3 es
    simp [nds]
    omega
  · rw [hk] at e0 e1 e2 e3
    rw [pf_no hW hp ho (by omega)] at es
    simp at e0 e1 e2 e3 es
    simp [nds]
    omega
  · rw [hk] at e0 e1 e2 e3
    rw [pf_no hW hp ho (by omega)] at es
    simp at e0 e1 e2 e3 es
    rcases hw2 with rfl | ⟨rfl, h0⟩
    · simp [nds]
      omega
    · simp [nds]
      omega
  · rw [hk] at e0 e1 e2 e3
    simp at e0 e1 e2 e3
    have es2 : nd 4 ≤ FS H (tks tk p b true) := by
      rcases h4 with h4 | h4
      · rw [h4] at es
        simp at es
        omega
      · split at es <;> omega
    rcases hw2 with rfl | ⟨rfl, h0⟩
    · simp [nds]
      omega
    · simp [nds]
      omega
theorem hall_d {H : HV} {tk : TK} {nd : ND} {w : Nat} (hW : WH H) (hw : w = 2 ∨ w = 1 ∧ FK H tk 0 = 0) (hn : 1 ≤ nd w) (hf : fit H tk nd = true) : ∃ s, s < 512 ∧ (give H w s (tk, nd)).isSome = true := by
  have hf' := hf
  unfold fit at hf'
  simp only [decide_eq_true_eq] at hf'
  have hw4 : w < 4 := by omega
  by_cases h3 : nd 3 < FK H tk 2
  · obtain ⟨p, b, hp, hb, hk, hu⟩ := FK_pos (H := H) (tk := tk) (k := 2) (by omega)
    exact hall_u hW hw4 hp hb hu ⟨by omega, by omega⟩ (by omega) (by omega) (fit_u hW hp hb hu hw4 hn hf (by simp [hk, h3, hw]))
  · have h1 : 2 * nd 4 + 1 ≤ FK H tk 1 := by
      rcases hw with rfl | ⟨rfl, h0⟩ <;> omega
    by_cases hx : ∃ p, p < 16 ∧ H.2.1 p = 1 ∧ fu H tk p 0 = true ∧ pf H tk p = false
    · obtain ⟨p, hp, hk, hu, hpf⟩ := hx
      exact hall_u hW hw4 hp (by omega) hu ⟨by omega, by omega⟩ (by omega) (by omega) (fit_u hW hp (by omega) hu hw4 hn hf (by simp [hk, hpf, hw]))
    · have h2 := F1_le (tk := tk) hW (fun p hp hk hu => by
        cases e : pf H tk p with
        | true => rfl
        | false => exact absurd ⟨p, hp, hk, hu, e⟩ hx)
      obtain ⟨p, b, hp, hb, hk, hu⟩ := FK_pos (H := H) (tk := tk) (k := 1) (by omega)
      have h4 : nd 4 < FS H tk := by omega
      exact hall_u hW hw4 hp hb hu ⟨by omega, by omega⟩ (by omega) (by omega) (fit_u hW hp hb hu hw4 hn hf (by simp [hk, h4, hw]))
theorem code_s {p : Nat} : (32 * p + 1) / 32 = p ∧ (32 * p + 1) % 32 / 4 = 0 ∧ (32 * p + 1) % 4 = 1 := by omega
/-- two units are taken, the halves of a suite -/
theorem su_take {H : HV} {tk : TK} {p : Nat} (hW : WH H) (h : su H tk p = true) : FK H (tks (tks tk p 0 true) (p + 1) 0 true) 1 + 2 = FK H tk 1 ∧ (∀ k, k ≠ 1 → FK H (tks (tks tk p 0 true) (p + 1) 0 true) k = FK H tk k) ∧ FS H (tks (tks tk p 0 true) (p + 1) 0 true) + 1 = FS H tk := by
  obtain ⟨h1, h2, h3⟩ := su_iff.mp h
  obtain ⟨g1, g2, g3, g4⟩ := su_both hW h
  have hp := fu_lt hW h1
  have h2' : fu H (tks tk p 0 true) (p + 1) 0 = true := by
    rw [fu_tks, if_neg (by omega)]
    exact h2
  have a1 := FK_tks hp (show (0 : Nat) < 6 by omega) h1
  have a2 := FK_tks g1 (show (0 : Nat) < 6 by omega) h2'
  have b1 := FS_tks hW h1
  have b2 := FS_tks hW h2'
  rw [if_pos ⟨rfl, (pf_iff hW h1).mpr (Or.inl h)⟩] at b1
  have hpf : pf H (tks tk p 0 true) (p + 1) = false := by
    unfold pf
    rw [g4, fu_tks, if_pos ⟨rfl, rfl⟩]
    simp
  rw [hpf] at b2
  simp at b2
  refine ⟨?_, fun k hk => ?_, by omega⟩
  · have x1 := a1 1
    have x2 := a2 1
    rw [if_pos g2] at x1
    rw [if_pos g3] at x2
    omega
  · have x1 := a1 k
    have x2 := a2 k
    rw [if_neg (by omega)] at x1 x2
    omega
theorem hall {H : HV} {tk : TK} {nd : ND} {w : Nat} (hW : WH H) (hw : w < 5) (hn : 1 ≤ nd w) (hf : fit H tk nd = true) : ∃ s, s < 512 ∧ (give H w s (tk, nd)).isSome = true := by
  have hf' := hf
  unfold fit at hf'
  simp only [decide_eq_true_eq] at hf'
  rcases (show w = 0 ∨ w = 1 ∨ w = 2 ∨ w = 3 ∨ w = 4 by omega) with rfl | rfl | rfl | rfl | rfl
  · obtain ⟨p, b, hp, hb, hk, hu⟩ := FK_pos (H := H) (tk := tk) (k := 3) (by omega)
    exact hall_u hW (by omega) hp hb hu (by simp [hk]) (by omega) (by omega) (fit_u hW hp hb hu (by omega) hn hf (by simp [hk]))
  · by_cases h0 : FK H tk 0 = 0
    · exact hall_d hW (Or.inr ⟨rfl, h0⟩) hn hf
    · obtain ⟨p, b, hp, hb, hk, hu⟩ := FK_pos (H := H) (tk := tk) (k := 0) (by omega)
      exact hall_u hW (by omega) hp hb hu (by simp [hk]) (by omega) (by omega) (fit_u hW hp hb hu (by omega) hn hf (by simp [hk]))
  · exact hall_d hW (Or.inl rfl) hn hf
  · obtain ⟨p, b, hp, hb, hk, hu⟩ := FK_pos (H := H) (tk := tk) (k := 2) (by omega)
    exact hall_u hW (by omega) hp hb hu (by simp [hk]) (by omega) (by omega) (fit_u hW hp hb hu (by omega) hn hf (by simp [hk]))
  · obtain ⟨p, hp, hs⟩ := fb_ct_pos.mp (show 0 < fb_ct (su H tk) 16 by have : FS H tk = fb_ct (su H tk) 16 := rfl; omega)
    obtain ⟨h1, h2, h3⟩ := su_iff.mp hs
    obtain ⟨g1, g2, g3, g4⟩ := su_both hW hs
    obtain ⟨c1, c2, c3⟩ := code_s (p := p)
    obtain ⟨t1, t2, t3⟩ := su_take hW hs
    have hf1 := fu_iff.mp h1
    refine ⟨32 * p + 1, by omega, give_ok ?_ ?_ ?_⟩
    · unfold suS
      rw [c1, c2, c3]
      simp only [Bool.and_eq_true, decide_eq_true_eq]
      refine ⟨hf1.1, by omega, by simp, by simp, by simp [g2], hf1.2.1, by simp, by simp, fun _ => ⟨g2, h3⟩⟩
    · unfold frS
      rw [c1, c2, c3, h1, h2]
      rfl
    · unfold tkS
      rw [c1, c2, c3, if_pos rfl]
      have t0 := t2 0 (by omega)
      have t4 := t2 2 (by omega)
      have t5 := t2 3 (by omega)
      unfold fit
      simp only [decide_eq_true_eq]
      simp [nds]
      omega
/-! the plan of a night -/
theorem foldl_inv {α β : Type} (f : β → α → β) (P : List α → β → Prop) : ∀ (l pre : List α) (b : β) (_ : P pre b) (_ : ∀ p a b, (∃ post, pre ++ l = p ++ a :: post) → P p b → P (p ++ [a]) (f b a)), P (pre ++ l) (l.foldl f b)
  | [], pre, b, h0, _ => by rw [List.append_nil]; exact h0
  | a :: l, pre, b, h0, hs => by
    have h1 := foldl_inv f P l (pre ++ [a]) (f b a) (hs pre a b ⟨l, rfl⟩ h0) (fun p c d h hp => hs p c d (by simpa using h) hp)
    rw [List.append_assoc] at h1
    exact h1
theorem foldl_inv0 {α β : Type} (f : β → α → β) (P : List α → β → Prop) (l : List α) (b : β) (h0 : P [] b) (hs : ∀ p a b, (∃ post, l = p ++ a :: post) → P p b → P (p ++ [a]) (f b a)) : P l (l.foldl f b) :=
  foldl_inv f P l [] b h0 hs
theorem wl_new {WL p post : List PE} {a : PE} (hp : WL.Pairwise (fun a b => a.1 < b.1)) (h : WL = p ++ a :: post) : ∀ e ∈ p, e.1 < a.1 := by
  rw [h, List.pairwise_append] at hp
  exact fun e he => hp.2.2 e he a List.mem_cons_self
theorem wl_one {WL : List PE} (hp : WL.Pairwise (fun a b => a.1 < b.1)) {a b : PE} (ha : a ∈ WL) (hb : b ∈ WL) (h : a.1 = b.1) : a = b := by
  induction WL with
  | nil => cases ha
  | cons x l ih =>
    rw [List.pairwise_cons] at hp
    rcases List.mem_cons.mp ha with ha1 | ha1
    · rcases List.mem_cons.mp hb with hb1 | hb1
      · rw [ha1, hb1]
      · have := hp.1 b hb1; rw [ha1] at h; omega
    · rcases List.mem_cons.mp hb with hb1 | hb1
      · have := hp.1 a ha1; rw [hb1] at h; omega
      · exact ih hp.2 ha1 hb1
/-- who wants the night -/
def WLok (WL : List PE) (wq : Nat → Nat) : Prop := WL.Pairwise (fun a b => a.1 < b.1) ∧ ∀ e ∈ WL, e.1 < 40 ∧ e.2.1 = wq e.1 ∧ e.2.1 < 5 ∧ e.2.2 ≤ 2
def cnt (wq : Nat → Nat) (kp : Nat → Bool) (sp : Nat → Option Nat) (w : Nat) : Nat := fb_ct (fun q => kp q && (decide (wq q = w) && (sp q).isNone)) 40
theorem cnt_keep {wq : Nat → Nat} {kp : Nat → Bool} {q : Nat} (hq : q < 40) (h : kp q = false) (w : Nat) : cnt wq (fun x => if x = q then true else kp x) (fun _ => none) w = cnt wq kp (fun _ => none) w + (if w = wq q then 1 else 0) := by
  unfold cnt
  have e1 : fb_ct (fun x => (if x = q then true else kp x) && (decide (wq x = w) && (none : Option Nat).isNone)) 40 = fb_ct (fun k => if k = q then decide (wq q = w) else (fun x => kp x && (decide (wq x = w) && (none : Option Nat).isNone)) k) 40 := fb_ct_cong (fun k _ => by
    by_cases e : k = q
    · subst e; simp
    · simp [e])
  have e2 := fb_ct_upd (fun x => kp x && (decide (wq x = w) && (none : Option Nat).isNone)) (decide (wq q = w)) hq
  rw [e1]
  simp only [h, Bool.false_and] at e2
  by_cases e : w = wq q
  · subst e
    simp at e2 ⊢
    omega
  · have e' : ¬ wq q = w := fun z => e z.symm
    simp [e, e'] at e2 ⊢
    omega
theorem cnt_give {wq : Nat → Nat} {kp : Nat → Bool} {sp : Nat → Option Nat} {q s : Nat} (hq : q < 40) (hk : kp q = true) (hs : sp q = none) (w : Nat) : cnt wq kp (ups sp q (some s)) w + (if w = wq q then 1 else 0) = cnt wq kp sp w := by
  unfold cnt
  have e1 : fb_ct (fun x => kp x && (decide (wq x = w) && (ups sp q (some s) x).isNone)) 40 = fb_ct (fun k => if k = q then false else (fun x => kp x && (decide (wq x = w) && (sp x).isNone)) k) 40 := fb_ct_cong (fun k _ => by
    unfold ups
    by_cases e : k = q
    · subst e; simp
    · simp [e])
  have e2 := fb_ct_upd (fun x => kp x && (decide (wq x = w) && (sp x).isNone)) false hq
  rw [e1]
  simp only [hk, hs] at e2
  by_cases e : w = wq q
  · subst e
    simp at e2 ⊢
    omega
  · have e' : ¬ wq q = w := fun z => e z.symm
    simp [e, e'] at e2 ⊢
    omega
theorem keep_pass {H : HV} {WL : List PE} {wq : Nat → Nat} (hO : WLok WL wq) (which : Nat) (dn : List Nat) (hd : which ∉ dn) (x : ND × (Nat → Bool))
    (h1 : fit H tk0 x.1 = true) (h2 : ∀ w, x.1 w = cnt wq x.2 (fun _ => none) w) (h3 : ∀ q, x.2 q = true → ∃ e ∈ WL, e.1 = q ∧ e.2.2 ∈ dn) :
    fit H tk0 (WL.foldl (keepStep H which) x).1 = true ∧ (∀ w, (WL.foldl (keepStep H which) x).1 w = cnt wq (WL.foldl (keepStep H which) x).2 (fun _ => none) w) ∧ ∀ q, (WL.foldl (keepStep H which) x).2 q = true → ∃ e ∈ WL, e.1 = q ∧ e.2.2 ∈ which :: dn := by
  have := foldl_inv0 (keepStep H which) (fun pre x => fit H tk0 x.1 = true ∧ (∀ w, x.1 w = cnt wq x.2 (fun _ => none) w) ∧ ∀ q, x.2 q = true → ∃ e ∈ WL, e.1 = q ∧ (e.2.2 ∈ dn ∨ (e ∈ pre ∧ e.2.2 = which))) WL x ⟨h1, h2, fun q hq => by
    obtain ⟨e, a, b, c⟩ := h3 q hq
    exact ⟨e, a, b, Or.inl c⟩⟩ (fun p a y hp ⟨g1, g2, g3⟩ => by
    obtain ⟨post, hpost⟩ := hp
    have ha : a ∈ WL := by rw [hpost]; simp
    have hold : ∀ q, y.2 q = true → ∃ e ∈ WL, e.1 = q ∧ (e.2.2 ∈ dn ∨ (e ∈ p ++ [a] ∧ e.2.2 = which)) := fun q hq => by
      obtain ⟨e, b, c, d⟩ := g3 q hq
      exact ⟨e, b, c, d.imp id (fun z => ⟨List.mem_append_left _ z.1, z.2⟩)⟩
    unfold keepStep
    by_cases e1 : a.2.2 = which
    · rw [if_pos e1]
      have hno : y.2 a.1 = false := by
        cases e3 : y.2 a.1 with
        | false => rfl
        | true =>
          obtain ⟨e, b, c, d⟩ := g3 _ e3
          obtain rfl := wl_one hO.1 b ha c
          rcases d with d | d
          · exact absurd (e1 ▸ d) hd
          · have := wl_new hO.1 hpost _ d.1
            omega
      by_cases e2 : fit H tk0 (nds y.1 a.2.1 (y.1 a.2.1 + 1)) = true
      · rw [if_pos e2]
        refine ⟨e2, fun w => ?_, fun q hq => ?_⟩
        · have := cnt_keep (wq := wq) (hO.2 a ha).1 hno w
          rw [this, ← g2 w]
          show nds y.1 a.2.1 (y.1 a.2.1 + 1) w = _
          unfold nds
          rw [(hO.2 a ha).2.1]
          by_cases e4 : w = wq a.1
          · rw [if_pos e4, if_pos e4, ← e4]
          · rw [if_neg e4, if_neg e4]; rfl
        · by_cases e4 : q = a.1
          · exact ⟨a, ha, e4.symm, Or.inr ⟨by simp, e1⟩⟩
          · have hq' : (if q = a.1 then true else y.2 q) = true := hq
            rw [if_neg e4] at hq'
            exact hold q hq'
      · rw [if_neg e2]
        have hfe : (fun q => if q = a.1 then false else y.2 q) = y.2 := funext fun q => by
          by_cases e4 : q = a.1
          · rw [if_pos e4, e4, hno]
          · rw [if_neg e4]
        rw [hfe]
        exact ⟨g1, g2, hold⟩
    · rw [if_neg e1]
      exact ⟨g1, g2, hold⟩)
  obtain ⟨g1, g2, g3⟩ := this
  refine ⟨g1, g2, fun q hq => ?_⟩
  obtain ⟨e, a, b, c⟩ := g3 q hq
  refine ⟨e, a, b, ?_⟩
  rcases c with c | c
  · exact List.mem_cons_of_mem _ c
  · rw [c.2]; exact List.mem_cons_self
theorem keepAll_ok {H : HV} {WL : List PE} {wq : Nat → Nat} (hO : WLok WL wq) : fit H tk0 (keepAll H WL).1 = true ∧ (∀ w, (keepAll H WL).1 w = cnt wq (keepAll H WL).2 (fun _ => none) w) ∧ ∀ q, (keepAll H WL).2 q = true → ∃ e ∈ WL, e.1 = q := by
  have h0 : fit H tk0 (fun _ => 0) = true := by
    unfold fit
    simp
  have a1 := keep_pass (H := H) hO 2 [] (by simp) (fun _ => 0, fun _ => false) h0 (fun w => by
    unfold cnt
    exact (fb_ct_zero.mpr (fun k _ => by simp)).symm) (fun q hq => by cases hq)
  have a2 := keep_pass (H := H) hO 1 [2] (by simp) _ a1.1 a1.2.1 a1.2.2
  have a3 := keep_pass (H := H) hO 0 [1, 2] (by simp) _ a2.1 a2.2.1 a2.2.2
  refine ⟨a3.1, a3.2.1, fun q hq => ?_⟩
  obtain ⟨e, a, b, -⟩ := a3.2.2 q hq
  exact ⟨e, a, b⟩
def occ (s p b : Nat) : Prop := (p = s / 32 ∧ b = s % 32 / 4) ∨ (s % 4 = 1 ∧ p = s / 32 + 1 ∧ b = 0)
/-- what holds while spots are given -/
def GI (H : HV) (wq : Nat → Nat) (kp : Nat → Bool) (x : ST) : Prop :=
  fit H x.1.1 x.1.2 = true ∧ (∀ w, x.1.2 w = cnt wq kp x.2 w) ∧ (∀ q s, x.2 q = some s → suS H (wq q) s = true ∧ kp q = true ∧ ∀ p b, occ s p b → x.1.1 p b = true) ∧
  ∀ q q' s s', q ≠ q' → x.2 q = some s → x.2 q' = some s' → ∀ p b, ¬ (occ s p b ∧ occ s' p b)
theorem give_some {H : HV} {w s : Nat} {x y : TK × ND} (h : give H w s x = some y) : suS H w s = true ∧ frS H x.1 s = true ∧ fit H y.1 y.2 = true ∧ y = (tkS x.1 s, nds x.2 w (x.2 w - 1)) := by
  unfold give at h
  split at h
  · rename_i hc
    cases h
    exact ⟨hc.1, hc.2.1, hc.2.2, rfl⟩
  · cases h
theorem tkS_occ {tk : TK} {s p b : Nat} (h : occ s p b) : tkS tk s p b = true := by
  unfold tkS tks
  rcases h with ⟨h1, h2⟩ | ⟨h1, h2, h3⟩
  · split
    · simp [h1, h2]
    · simp [h1, h2]
  · rw [if_pos h1, if_pos ⟨h2, h3⟩]
theorem tkS_old {tk : TK} {s p b : Nat} (h : tk p b = true) : tkS tk s p b = true := by
  unfold tkS tks
  by_cases h4 : s % 4 = 1
  · rw [if_pos h4]
    show (if p = s / 32 + 1 ∧ b = 0 then true else if p = s / 32 ∧ b = s % 32 / 4 then true else tk p b) = true
    rw [h]
    split
    · rfl
    · split <;> rfl
  · rw [if_neg h4]
    show (if p = s / 32 ∧ b = s % 32 / 4 then true else tk p b) = true
    rw [h]
    split <;> rfl
theorem frS_occ {H : HV} {tk : TK} {s p b : Nat} (hf : frS H tk s = true) (h : occ s p b) : tk p b = false := by
  unfold frS at hf
  simp only [Bool.and_eq_true, Bool.or_eq_true, decide_eq_true_eq] at hf
  rcases h with ⟨h1, h2⟩ | ⟨h1, h2, h3⟩
  · rw [h1, h2]
    exact (fu_iff.mp hf.1).2.2
  · rw [h2, h3]
    exact (fu_iff.mp (hf.2.resolve_left (by omega))).2.2
theorem GI_give {H : HV} {wq : Nat → Nat} {kp : Nat → Bool} {x : ST} {q s : Nat} {y : TK × ND} (hI : GI H wq kp x) (hq : q < 40) (hk : kp q = true) (hn : x.2 q = none) (h : give H (wq q) s x.1 = some y) : GI H wq kp (y, ups x.2 q (some s)) := by
  obtain ⟨a1, a2, a3, a4⟩ := give_some h
  obtain ⟨g1, g2, g3, g4⟩ := hI
  subst a4
  refine ⟨a3, fun w => ?_, fun q' s' hs' => ?_, fun q1 q2 s1 s2 hne h1 h2 p b hoc => ?_⟩
  · have c1 := cnt_give (wq := wq) (sp := x.2) (s := s) hq hk hn w
    rw [← g2 w] at c1
    show nds x.1.2 (wq q) (x.1.2 (wq q) - 1) w = cnt wq kp (ups x.2 q (some s)) w
    unfold nds
    by_cases e : w = wq q
    · rw [if_pos e] at c1 ⊢
      rw [← e]
      omega
    · rw [if_neg e] at c1 ⊢
      omega
  · show suS H (wq q') s' = true ∧ kp q' = true ∧ ∀ p b, occ s' p b → tkS x.1.1 s p b = true
    have hs2 : (if q' = q then some s else x.2 q') = some s' := hs'
    by_cases e : q' = q
    · rw [if_pos e] at hs2
      cases hs2
      rw [e]
      exact ⟨a1, hk, fun p b ho => tkS_occ ho⟩
    · rw [if_neg e] at hs2
      obtain ⟨b1, b2, b3⟩ := g3 q' s' hs2
      exact ⟨b1, b2, fun p b ho => tkS_old (b3 p b ho)⟩
  · have h1' : (if q1 = q then some s else x.2 q1) = some s1 := h1
    have h2' : (if q2 = q then some s else x.2 q2) = some s2 := h2
    by_cases e1 : q1 = q
    · rw [if_pos e1] at h1'
      cases h1'
      rw [if_neg (by omega)] at h2'
      have := frS_occ a2 hoc.1
      rw [(g3 q2 s2 h2').2.2 p b hoc.2] at this
      cases this
    · rw [if_neg e1] at h1'
      by_cases e2 : q2 = q
      · rw [if_pos e2] at h2'
        cases h2'
        have := frS_occ a2 hoc.2
        rw [(g3 q1 s1 h1').2.2 p b hoc.1] at this
        cases this
      · rw [if_neg e2] at h2'
        exact g4 q1 q2 s1 s2 hne h1' h2' p b hoc
theorem wl_new2 {WL L R p post : List PE} {a : PE} (hp : WL.Pairwise (fun a b => a.1 < b.1)) (hL : WL = L ++ R) (h : L = p ++ a :: post) : a ∈ WL ∧ ∀ e ∈ p, e.1 < a.1 := by
  refine ⟨by rw [hL, h]; simp, ?_⟩
  exact wl_new (post := post ++ R) hp (by rw [hL, h]; simp)
/-- the first way, as far as it has come -/
theorem again_GI {H : HV} {WL : List PE} {wq : Nat → Nat} {pv : Nat → Option Nat} {kp : Nat → Bool} {x0 : ST} (hO : WLok WL wq) (h0 : GI H wq kp x0) (hn : ∀ q, x0.2 q = none) (L R : List PE) (hL : WL = L ++ R) : GI H wq kp (L.foldl (againStep H pv kp) x0) ∧ ∀ q, (L.foldl (againStep H pv kp) x0).2 q ≠ none → ∃ e ∈ L, e.1 = q := by
  refine foldl_inv0 (againStep H pv kp) (fun pre x => GI H wq kp x ∧ ∀ q, x.2 q ≠ none → ∃ e ∈ pre, e.1 = q) L x0 ⟨h0, fun q hq => absurd (hn q) hq⟩ (fun p a x hp ⟨g1, g2⟩ => ?_)
  obtain ⟨post, hpost⟩ := hp
  obtain ⟨ha, hlt⟩ := wl_new2 hO.1 hL hpost
  have hold : ∀ q, x.2 q ≠ none → ∃ e ∈ p ++ [a], e.1 = q := fun q hq => by
    obtain ⟨e, b, c⟩ := g2 q hq
    exact ⟨e, List.mem_append_left _ b, c⟩
  have hno : x.2 a.1 = none := by
    cases e3 : x.2 a.1 with
    | none => rfl
    | some s =>
      obtain ⟨e, b, c⟩ := g2 a.1 (by rw [e3]; simp)
      have := hlt _ b
      omega
  unfold againStep
  by_cases e1 : kp a.1 = true
  · rw [if_pos e1]
    cases e2 : pv a.1 with
    | none => exact ⟨g1, hold⟩
    | some s =>
      cases e3 : give H a.2.1 s x.1 with
      | none => simp only [e3]; exact ⟨g1, hold⟩
      | some y =>
        simp only [e3]
        rw [(hO.2 a ha).2.1] at e3
        refine ⟨GI_give g1 (hO.2 a ha).1 e1 hno e3, fun q hq => ?_⟩
        by_cases e4 : q = a.1
        · exact ⟨a, by simp, e4.symm⟩
        · refine hold q ?_
          have : (if q = a.1 then some s else x.2 q) ≠ none := hq
          rw [if_neg e4] at this
          exact this
  · rw [if_neg e1]
    exact ⟨g1, hold⟩
/-- who is kept and has no spot yet is among the needs -/
theorem GI_need {H : HV} {wq : Nat → Nat} {kp : Nat → Bool} {x : ST} {q : Nat} (hI : GI H wq kp x) (hq : q < 40) (hk : kp q = true) (hn : x.2 q = none) : 1 ≤ x.1.2 (wq q) := by
  rw [hI.2.1]
  unfold cnt
  exact fb_ct_pos.mpr ⟨q, hq, by simp [hk, hn]⟩
/-- the second way, as far as it has come -/
theorem first_GI {H : HV} {WL : List PE} {wq : Nat → Nat} {kp : Nat → Bool} {x0 : ST} (hW : WH H) (hO : WLok WL wq) (h0 : GI H wq kp x0) (L R : List PE) (hL : WL = L ++ R) : GI H wq kp (L.foldl (firstStep H kp) x0) ∧ ∀ e ∈ L, kp e.1 = true → (L.foldl (firstStep H kp) x0).2 e.1 ≠ none := by
  refine foldl_inv0 (firstStep H kp) (fun pre x => GI H wq kp x ∧ ∀ e ∈ pre, kp e.1 = true → x.2 e.1 ≠ none) L x0 ⟨h0, fun e he => by cases he⟩ (fun p a x hp ⟨g1, g2⟩ => ?_)
  obtain ⟨post, hpost⟩ := hp
  obtain ⟨ha, hlt⟩ := wl_new2 hO.1 hL hpost
  unfold firstStep
  by_cases e1 : kp a.1 = true ∧ x.2 a.1 = none
  · rw [if_pos e1]
    have hc := GI_need g1 (hO.2 a ha).1 e1.1 e1.2
    obtain ⟨s, hs, hsome⟩ := hall (w := wq a.1) hW (by have := hO.2 a ha; omega) hc g1.1
    cases e2 : fstS H a.2.1 x.1 with
    | none =>
      exfalso
      unfold fstS at e2
      rw [List.find?_eq_none] at e2
      have := e2 s (List.mem_range.mpr hs)
      rw [(hO.2 a ha).2.1] at this
      exact this hsome
    | some s2 =>
      have hs2 := List.find?_some e2
      cases e3 : give H a.2.1 s2 x.1 with
      | none => rw [e3] at hs2; cases hs2
      | some y =>
        simp only [e3]
        rw [(hO.2 a ha).2.1] at e3
        refine ⟨GI_give g1 (hO.2 a ha).1 e1.1 e1.2 e3, fun e he hk => ?_⟩
        show (if e.1 = a.1 then some s2 else x.2 e.1) ≠ none
        by_cases e4 : e.1 = a.1
        · rw [if_pos e4]; simp
        · rw [if_neg e4]
          rcases List.mem_append.mp he with he | he
          · exact g2 e he hk
          · simp at he; rw [he] at e4; exact absurd rfl e4
  · rw [if_neg e1]
    refine ⟨g1, fun e he hk => ?_⟩
    rcases List.mem_append.mp he with he | he
    · exact g2 e he hk
    · simp at he
      rw [he] at hk ⊢
      exact fun z => e1 ⟨hk, z⟩
theorem GI_start {H : HV} {WL : List PE} {wq : Nat → Nat} (hO : WLok WL wq) : GI H wq (keepAll H WL).2 ((tk0, (keepAll H WL).1), fun _ => none) := by
  obtain ⟨k1, k2, k3⟩ := keepAll_ok (H := H) hO
  exact ⟨k1, k2, (fun q s (hs : (none : Option Nat) = some s) => by cases hs), (fun q q' s s' _ (hs : (none : Option Nat) = some s) => by cases hs)⟩
theorem pnight_ok {H : HV} {WL : List PE} {wq : Nat → Nat} {pv : Nat → Option Nat} (hW : WH H) (hO : WLok WL wq) : GI H wq (keepAll H WL).2 (pnight H WL pv) ∧ ∀ q, (keepAll H WL).2 q = true → (pnight H WL pv).2 q ≠ none := by
  have s1 := again_GI (pv := pv) hO (GI_start (H := H) hO) (fun _ => rfl) WL [] (by simp)
  have s2 := first_GI hW hO s1.1 WL [] (by simp)
  refine ⟨s2.1, fun q hq => ?_⟩
  obtain ⟨e, he, rfl⟩ := (keepAll_ok (H := H) hO).2.2 q hq
  exact s2.2 e he hq
theorem fit_bd {H : HV} {tk : TK} {nd : ND} (hK : ∀ k, FK H tk k ≤ 96) (hS : FS H tk ≤ 16) (h : fit H tk nd = true) : ∀ w, w < 5 → nd w ≤ 299 := by
  unfold fit at h
  simp only [decide_eq_true_eq] at h
  have h0 := hK 0
  have h1 := hK 1
  have h2 := hK 2
  have h3 := hK 3
  intro w hw
  rcases (show w = 0 ∨ w = 1 ∨ w = 2 ∨ w = 3 ∨ w = 4 by omega) with rfl | rfl | rfl | rfl | rfl <;> omega
