abbrev CP : Type := Option (Nat × Nat)
def cle (y x : Nat × Nat) : Prop := y.1 < x.1 ∨ (y.1 = x.1 ∧ y.2 ≤ x.2)
def lm (r x : CP) : CP := match x with
  | none => r
  | some x => match r with
    | none => some x
    | some r => if x.1 < r.1 ∨ (x.1 = r.1 ∧ x.2 < r.2) then some x else some r
def IsM (S : Nat → Prop) (f : Nat → CP) (r : CP) : Prop := (∀ m, S m → ∀ x, f m = some x → ∃ y, r = some y ∧ cle y x) ∧ ∀ y, r = some y → ∃ m, S m ∧ f m = some y
theorem IsM.one {S : Nat → Prop} {f : Nat → CP} {r r' : CP} (h : IsM S f r) (h' : IsM S f r') : r = r' := by
  cases r with
  | none =>
    cases r' with
    | none => rfl
    | some y' =>
      obtain ⟨m, hm, e⟩ := h'.2 y' rfl
      obtain ⟨y, e2, -⟩ := h.1 m hm y' e
      cases e2
  | some y =>
    obtain ⟨m, hm, e⟩ := h.2 y rfl
    obtain ⟨y', e2, c1⟩ := h'.1 m hm y e
    subst e2
    obtain ⟨m', hm', e'⟩ := h'.2 y' rfl
    obtain ⟨y2, e3, c2⟩ := h.1 m' hm' y' e'
    cases e3
    unfold cle at c1 c2
    have a1 : y.1 = y'.1 := by omega
    have a2 : y.2 = y'.2 := by omega
    rw [Prod.ext a1 a2]
theorem IsM.step {S S' : Nat → Prop} {f : Nat → CP} {r : CP} {m : Nat} (h : IsM S f r) (hS : ∀ x, S' x ↔ S x ∨ x = m) : IsM S' f (lm r (f m)) := by
  have hx : ∀ v, f m = v → lm r (f m) = lm r v := fun v e => by rw [e]
  cases e : f m with
  | none =>
    refine ⟨fun m' hm' x hx' => ?_, fun y hy => ?_⟩
    · rcases (hS m').mp hm' with c | c
      · exact h.1 m' c x hx'
      · rw [c, e] at hx'; cases hx'
    · obtain ⟨m', a, b⟩ := h.2 y hy
      exact ⟨m', (hS m').mpr (Or.inl a), b⟩
  | some x0 =>
    cases r with
    | none =>
      refine ⟨fun m' hm' x hx' => ?_, fun y hy => ?_⟩
      · rcases (hS m').mp hm' with c | c
        · obtain ⟨y, a, -⟩ := h.1 m' c x hx'
          cases a
        · rw [c, e] at hx'
          cases hx'
          exact ⟨x0, rfl, Or.inr ⟨rfl, Nat.le_refl _⟩⟩
      · have hy' : some x0 = some y := hy
        cases hy'
        exact ⟨m, (hS m).mpr (Or.inr rfl), e⟩
    | some r0 =>
      show IsM S' f (if x0.1 < r0.1 ∨ (x0.1 = r0.1 ∧ x0.2 < r0.2) then some x0 else some r0)
      by_cases c : x0.1 < r0.1 ∨ (x0.1 = r0.1 ∧ x0.2 < r0.2)
      · rw [if_pos c]
        refine ⟨fun m' hm' x hx' => ?_, fun y hy => ?_⟩
        · rcases (hS m').mp hm' with c' | c'
          · obtain ⟨y, a, b⟩ := h.1 m' c' x hx'
            cases a
            refine ⟨x0, rfl, ?_⟩
            unfold cle at b ⊢
            omega
          · rw [c', e] at hx'
            cases hx'
            exact ⟨x0, rfl, Or.inr ⟨rfl, Nat.le_refl _⟩⟩
        · cases hy
          exact ⟨m, (hS m).mpr (Or.inr rfl), e⟩
      · rw [if_neg c]
        refine ⟨fun m' hm' x hx' => ?_, fun y hy => ?_⟩
        · rcases (hS m').mp hm' with c' | c'
          · exact h.1 m' c' x hx'
          · rw [c', e] at hx'
            cases hx'
            refine ⟨r0, rfl, ?_⟩
            unfold cle
            omega
        · obtain ⟨m', a, b⟩ := h.2 y hy
          exact ⟨m', (hS m').mpr (Or.inl a), b⟩
def bu (f : Nat → CP) (a : Nat) : Nat → CP
  | 0 => none
  | j + 1 => lm (bu f a j) (f (a + j))
def bd (f : Nat → CP) (b : Nat) : Nat → CP
  | 0 => none
  | j + 1 => lm (bd f b j) (f (b - 1 - j))
theorem bu_M (f : Nat → CP) (a : Nat) : ∀ j, IsM (fun m => a ≤ m ∧ m < a + j) f (bu f a j)
  | 0 => ⟨fun m hm => by omega, fun y hy => by cases hy⟩
  | j + 1 => (bu_M f a j).step (fun x => by constructor <;> omega)
theorem bd_M (f : Nat → CP) (b : Nat) : ∀ j, j ≤ b → IsM (fun m => b - j ≤ m ∧ m < b) f (bd f b j)
  | 0, _ => ⟨fun m hm => by omega, fun y hy => by cases hy⟩
  | j + 1, h => (bd_M f b j (by omega)).step (fun x => by constructor <;> omega)
theorem bu_bd {f : Nat → CP} {a b : Nat} (h : a ≤ b) : bu f a (b - a) = bd f b (b - a) := by
  have h1 := bu_M f a (b - a)
  have h2 := bd_M f b (b - a) (by omega)
  rw [show a + (b - a) = b by omega] at h1
  rw [show b - (b - a) = a by omega] at h2
  exact h1.one h2
def cand (t : Nat → CP) (ok : Bool) (c : Nat → Nat) (m : Nat) : CP := if ok = true then (match t m with
  | none => none
  | some y => some (y.1 + c m, y.2 + 1)) else none
theorem cand_none {t : Nat → CP} {ok : Bool} {c : Nat → Nat} {m : Nat} (h : t m = none) : cand t ok c m = none := by
  unfold cand
  rw [h]
  split <;> rfl
theorem cand_no {t : Nat → CP} {c : Nat → Nat} {m : Nat} : cand t false c m = none := rfl
theorem cand_some {t : Nat → CP} {c : Nat → Nat} {m : Nat} {y : Nat × Nat} (h : t m = some y) : cand t true c m = some (y.1 + c m, y.2 + 1) := by
  unfold cand
  rw [if_pos rfl, h]
theorem bu_none {f : Nat → CP} {a : Nat} (h : ∀ m, f m = none) : ∀ j, bu f a j = none
  | 0 => rfl
  | j + 1 => by
    show lm (bu f a j) (f (a + j)) = none
    rw [bu_none h j, h]
    rfl
def tbl (σ : Mem) (R d w a : Nat) : Nat → Nat → CP
  | 0 => fun m => if m = a then some (0, 0) else none
  | j + 1 => fun m => if m = a + (j + 1) then bu (cand (tbl σ R d w a j) (mE σ R (a + (j + 1))) (fun m => cst σ R d w m (a + (j + 1)))) a (j + 1) else tbl σ R d w a j m
def lst (σ : Mem) (R d w a b : Nat) : CP := tbl σ R d w a (b - a) b
theorem tbl_bd {σ : Mem} {R d w a : Nat} (hT : TI σ R) (hw : w < 5) : ∀ j, a + j ≤ 60 → ∀ m y, tbl σ R d w a j m = some y → a ≤ m ∧ m ≤ a + j ∧ y.1 ≤ y.2 * 1500000000 ∧ y.2 ≤ m - a
  | 0, h, m, y, e => by
    have e' : (if m = a then some (0, 0) else none) = some y := e
    by_cases c : m = a
    · rw [if_pos c] at e'
      cases e'
      exact ⟨by omega, by omega, by simp, by simp⟩
    · rw [if_neg c] at e'; cases e'
  | j + 1, h, m, y, e => by
    have e' : (if m = a + (j + 1) then bu (cand (tbl σ R d w a j) (mE σ R (a + (j + 1))) (fun m => cst σ R d w m (a + (j + 1)))) a (j + 1) else tbl σ R d w a j m) = some y := e
    by_cases c : m = a + (j + 1)
    · rw [if_pos c] at e'
      obtain ⟨m', hm', e2⟩ := (bu_M _ a (j + 1)).2 y e'
      have hok : mE σ R (a + (j + 1)) = true := by
        cases q : mE σ R (a + (j + 1)) with
        | true => rfl
        | false => rw [q, cand_no] at e2; cases e2
      rw [hok] at e2
      cases t : tbl σ R d w a j m' with
      | none => rw [cand_none t] at e2; cases e2
      | some z =>
        rw [cand_some t] at e2
        cases e2
        obtain ⟨b1, b2, b3, b4⟩ := tbl_bd hT hw j (by omega) m' z t
        have hc := (cst_bd (d := d) hT hw (show m' ≤ a + (j + 1) by omega) h).2
        refine ⟨by omega, by omega, ?_, ?_⟩
        · show z.1 + cst σ R d w m' (a + (j + 1)) ≤ (z.2 + 1) * 1500000000
          omega
        · show z.2 + 1 ≤ m - a
          omega
    · rw [if_neg c] at e'
      obtain ⟨b1, b2, b3⟩ := tbl_bd hT hw j (by omega) m y e'
      exact ⟨b1, by omega, b3⟩
def ec (o : CP) : Int64 := match o with
  | none => -1
  | some y => lN y.1
theorem lN_m1 {n : Nat} (h : n < 2 ^ 63) : lN n ≠ -1 := fun e => by
  have := congrArg Int64.toInt e
  rw [pk_lT h] at this
  have h2 : (-1 : Int64).toInt = -1 := by decide
  rw [h2] at this
  omega
theorem cmpN {a b : Nat} (ha : a < 2 ^ 63) (hb : b < 2 ^ 63) : (lg_cmp (lN a) (lN b) < 0 ↔ a < b) ∧ (lg_cmp (lN a) (lN b) = 0 ↔ a = b) := by
  refine ⟨?_, by rw [cmp0, fb_lN_inj ha hb]⟩
  unfold lg_cmp
  by_cases c1 : lN a > lN b
  · rw [if_pos c1]
    have := (pk_lLT hb ha).mp c1
    constructor
    · intro h; exact absurd h (by decide)
    · intro h; omega
  · rw [if_neg c1]
    have h1 : ¬ b < a := fun z => c1 ((pk_lLT hb ha).mpr z)
    by_cases c2 : lN a = lN b
    · rw [if_pos c2]
      have := (fb_lN_inj ha hb).mp c2
      constructor
      · intro h; exact absurd h (by decide)
      · intro h; omega
    · rw [if_neg c2]
      have h2 : a ≠ b := fun z => c2 (by rw [z])
      constructor
      · intro _; omega
      · intro _; decide
/-- the row of best costs and fewest parts holds the table from a on, up to e -/
def TB (τ : Mem) (tL tI a e : Nat) (t : Nat → CP) : Prop := ∀ m, a ≤ m → m < e → mL τ tL 0 m = ec (t m) ∧ ∀ y, t m = some y → mI τ tI 0 m = nI y.2
theorem sub1 (n : Nat) : nI n + (-1) = nI n - 1 := by rw [Int32.sub_eq_add_neg]
theorem last_ok {σ : Mem} {R d w a e : Nat} {t : Nat → CP} (hT : TI σ R) (hw : w < 5) (hd : d ≤ a) (hae : a < e) (he : e ≤ 60) (ht : ∀ m y, t m = some y → y.1 ≤ 100000000000 ∧ y.2 ≤ 60) (hB : TB σ 18 19 a e t) (hn : mL σ 18 0 e = -1) :
    ∃ σ', kT_searchLastPart σ (nI w) (nI a) (nI e) (nI d) = some ((), σ') ∧ Fx [18, 19] [] σ σ' ∧ TB σ' 18 19 a e t ∧ mL σ' 18 0 e = ec (bu (cand t true (fun m => cst σ R d w m e)) a (e - a)) ∧ ∀ y, bu (cand t true (fun m => cst σ R d w m e)) a (e - a) = some y → mI σ' 19 0 e = nI y.2 := by
  rw [bu_bd (by omega)]
  obtain ⟨f, hf⟩ : ∃ f, f = cand t true (fun m => cst σ R d w m e) := ⟨_, rfl⟩
  rw [← hf]
  unfold kT_searchLastPart
  have hfb : ∀ j y, j ≤ e - a → bd f e j = some y → y.1 ≤ 102000000000 ∧ y.2 ≤ 61 := fun j y hj hy => by
    obtain ⟨m, hm, e2⟩ := (bd_M f e j (by omega)).2 y hy
    rw [hf] at e2
    cases q : t m with
    | none => rw [cand_none q] at e2; cases e2
    | some z =>
      rw [cand_some q] at e2
      cases e2
      have h1 := ht m z q
      have h2 := (cst_bd (d := d) hT hw (show m ≤ e by omega) he).2
      exact ⟨by show z.1 + cst σ R d w m e ≤ _; omega, by show z.2 + 1 ≤ _; omega⟩
  obtain ⟨τ, l1, l2⟩ := lp_inv (f := kT_searchLastPart_s8 (nI w) (nI a) (nI e) (nI d)) (fun j s => ∃ τ, s = (lN (Sm σ w (e - j) j), nI (e - j) - 1, τ) ∧ Fx [18, 19] [] σ τ ∧ TB τ 18 19 a e t ∧ mL τ 18 0 e = ec (bd f e j) ∧ ∀ y, bd f e j = some y → mI τ 19 0 e = nI y.2)
    (fun τ => Fx [18, 19] [] σ τ ∧ TB τ 18 19 a e t ∧ mL τ 18 0 e = ec (bd f e (e - a)) ∧ ∀ y, bd f e (e - a) = some y → mI τ 19 0 e = nI y.2) (e - a) (by omega) (fun j s hj hs => by
    obtain ⟨τ, rfl, a1, a2, a3, a4⟩ := hs
    refine Or.inl ?_
    obtain ⟨s, hs⟩ : ∃ s, s = e - 1 - j := ⟨_, rfl⟩
    have hTt := TI.fx a1 rfl rfl hT
    have hx : nI (e - j) - 1 = nI s := by rw [show e - j = s + 1 by omega, nI_pred]
    have hprice : mI τ 16 w s = nI (prc σ w s) := by
      rw [a1.I 16 w s, ((hT.2.2.2.1 w hw s (by omega)).1)]
      exact (prc_nI hT hw (by omega)).1
    have hpb := (prc_nI (n := s) hT hw (by omega)).2
    have hsum : lN (Sm σ w (e - j) j) + (nI (prc σ w s)).toInt64 = lN (Sm σ w s (e - s)) := by
      rw [nI_l (by omega), lN_add, show e - s = j + 1 by omega, Sm_dn, show e - j = s + 1 by omega, Nat.add_comm]
    obtain ⟨b1, b2⟩ := a2 s (by omega) (by omega)
    have hnx : nI s + (-1) = nI (e - (j + 1)) - 1 := by rw [sub1, show e - (j + 1) = s by omega]
    have hsumx : lN (Sm σ w s (e - s)) = lN (Sm σ w (e - (j + 1)) (j + 1)) := by rw [show e - (j + 1) = s by omega, show e - s = j + 1 by omega]
    have hbs : bd f e (j + 1) = lm (bd f e j) (f s) := by rw [hs]; rfl
    simp only [kT_searchLastPart_s8, hx, nI_nlt (show a ≤ s by omega) (show s < 2 ^ 31 by omega), if_false, inr_ hw, inr_ (show s < 60 by omega), inr_ (show s < 61 by omega), if_true, ix_ (show w < 2 ^ 31 by omega), ix_ (show s < 2 ^ 31 by omega), hprice, hsum, cmp0, hnx, b1]
    cases q : t s with
    | none =>
      have hfs : f s = none := by rw [hf, cand_none q]
      rw [show ec none = -1 from rfl, if_pos rfl]
      exact ⟨_, rfl, τ, by rw [hsumx], a1, a2, by rw [hbs, hfs]; exact a3, by rw [hbs, hfs]; exact a4⟩
    | some z =>
      have hz := ht s z q
      have hfs : f s = some (z.1 + cst σ R d w s e, z.2 + 1) := by rw [hf, cand_some q]
      have hcb := cst_bd (d := d) (m := s) (n := e) hT hw (by omega) he
      have hzz : ∀ l h, zz τ R l h = zz σ R l h := fun l h => by
        unfold zz
        congr 1
        exact fb_si_cong (fun k _ => by unfold rc; rw [a1.I 61 0 k, a1.I 58 0 k, a1.I 59 0 k, a1.I 60 0 k])
      rw [show ec (some z) = lN z.1 from rfl, if_neg (lN_m1 (by omega))]
      have hcost : kT_costBy τ (lN (Sm σ w s (e - s))) (nI e - nI s) (nI s - nI d) = some (lN (cst σ R d w s e), τ) := by
        rw [pk_sub (show s ≤ e by omega), pk_sub (show d ≤ s by omega), costBy_ok hTt (by rw [hzz]; omega), hzz]
        rfl
      rw [hcost]
      simp only [Option.bind_some, inr_ (show e < 61 by omega), if_true, ix_ (show e < 2 ^ 31 by omega), lN_add, b2 z q, nI_1, a3]
      have hset : ∀ v : CP, v = some (z.1 + cst σ R d w s e, z.2 + 1) → lm (bd f e j) (f s) = v → ∃ s', kT_searchLastPart_j130 τ (nI w) (nI a) (nI e) (nI d) (lN (Sm σ w s (e - s))) (nI s) (lN (z.1 + cst σ R d w s e)) (nI (z.2 + 1)) = some (Sum.inl s') ∧ ∃ τ', s' = (lN (Sm σ w (e - (j + 1)) (j + 1)), nI (e - (j + 1)) - 1, τ') ∧ Fx [18, 19] [] σ τ' ∧ TB τ' 18 19 a e t ∧ mL τ' 18 0 e = ec (bd f e (j + 1)) ∧ ∀ y, bd f e (j + 1) = some y → mI τ' 19 0 e = nI y.2 := by
        intro v hv hlm
        unfold kT_searchLastPart_j130
        simp only [inr_ (show e < 61 by omega), if_true, ix_ (show e < 2 ^ 31 by omega), hnx]
        refine ⟨_, rfl, _, by rw [hsumx], (a1.sL).sI, fun m h1 h2 => ?_, ?_, fun y hy => ?_⟩
        · rw [mLsI, mLsL, if_neg (by omega), mIsI, if_neg (by omega), mIsL]
          exact a2 m h1 h2
        · rw [mLsI, mLsL, if_pos ⟨rfl, rfl, rfl⟩, hbs, hlm, hv]
          rfl
        · rw [hbs, hlm, hv] at hy
          cases hy
          rw [mIsI, if_pos ⟨rfl, rfl, rfl⟩]
      have hkeep : ∀ r, bd f e j = some r → lm (bd f e j) (f s) = some r → ∃ s', some (Sum.inl (lN (Sm σ w s (e - s)), nI (e - (j + 1)) - 1, τ)) = some (Sum.inl (β := Mem) s') ∧ ∃ τ', s' = (lN (Sm σ w (e - (j + 1)) (j + 1)), nI (e - (j + 1)) - 1, τ') ∧ Fx [18, 19] [] σ τ' ∧ TB τ' 18 19 a e t ∧ mL τ' 18 0 e = ec (bd f e (j + 1)) ∧ ∀ y, bd f e (j + 1) = some y → mI τ' 19 0 e = nI y.2 := by
        intro r hr hlm
        refine ⟨_, rfl, τ, by rw [hsumx], a1, a2, by rw [hbs, hlm, ← hr]; exact a3, fun y hy => a4 y ?_⟩
        rw [hbs, hlm] at hy
        rw [hr]
        exact hy
      cases r : bd f e j with
      | none =>
        rw [show ec none = -1 from rfl, if_pos rfl]
        exact hset _ rfl (by rw [r, hfs]; rfl)
      | some y =>
        have hy := hfb j y (by omega) r
        have hpy := a4 y r
        rw [show ec (some y) = lN y.1 from rfl, if_neg (lN_m1 (by omega))]
        obtain ⟨c1, c2⟩ := cmpN (a := z.1 + cst σ R d w s e) (b := y.1) (by omega) (by omega)
        have hlm : lm (bd f e j) (f s) = if z.1 + cst σ R d w s e < y.1 ∨ (z.1 + cst σ R d w s e = y.1 ∧ z.2 + 1 < y.2) then some (z.1 + cst σ R d w s e, z.2 + 1) else some y := by
          rw [r, hfs]
          rfl
        by_cases k1 : z.1 + cst σ R d w s e < y.1
        · rw [if_pos (c1.mpr k1)]
          exact hset _ rfl (by rw [hlm, if_pos (Or.inl k1)])
        · rw [if_neg (fun q => k1 (c1.mp q))]
          by_cases k2 : z.1 + cst σ R d w s e = y.1
          · rw [if_pos (by rw [k2]), hpy]
            by_cases k3 : z.2 + 1 < y.2
            · rw [if_neg (nge k3)]
              exact hset _ rfl (by rw [hlm, if_pos (Or.inr ⟨k2, k3⟩)])
            · rw [if_pos (nle (by omega))]
              exact hkeep y r (by rw [hlm, if_neg (by omega)])
          · rw [if_neg (fun q => k2 ((fb_lN_inj (by omega) (by omega)).mp q))]
            exact hkeep y r (by rw [hlm, if_neg (by omega)])) (fun s hs => by
    obtain ⟨τ, rfl, a1, a2⟩ := hs
    refine ⟨τ, ?_, a1, a2⟩
    have hlt : nI (e - (e - a)) - 1 < nI a := by
      rw [show e - (e - a) = a by omega]
      by_cases c : a = 0
      · rw [c]; decide
      · rw [show a = (a - 1) + 1 by omega, nI_pred]
        exact nI_lt (by omega) (by omega)
    simp only [kT_searchLastPart_s8, hlt, if_true]) (s := (0, nI e - 1, σ)) ⟨σ, by rw [Nat.sub_zero]; rfl, Fx.rf, hB, hn, fun y hy => by cases hy⟩
  rw [l1]
  exact ⟨τ, rfl, l2⟩
theorem TB.fx {l : List Nat} {m : List (Nat × Nat)} {σ σ' : Mem} {tL tI a e : Nat} {t : Nat → CP} (h : Fx l m σ σ') (hn : nohit [tL, tI] l m = true) (hB : TB σ tL tI a e t) : TB σ' tL tI a e t := fun k h1 h2 => by
  rw [h.hL hn tL 0 k (by simp), h.hI hn tI 0 k (by simp)]
  exact hB k h1 h2
theorem search_ok {σ : Mem} {R d w a b : Nat} (hT : TI σ R) (hw : w < 5) (hd : d ≤ a) (hab : a < b) (hb : b ≤ 60) :
    ∃ σ', kT_search σ (nI w) (nI a) (nI b) (nI d) = some (if (lst σ R d w a b).isSome = true then 1 else 0, σ') ∧ Fx [18, 19] [] σ σ' ∧ mL σ' 18 0 b = ec (lst σ R d w a b) ∧ ∀ y, lst σ R d w a b = some y → mI σ' 19 0 b = nI y.2 := by
  have hspan : kG_isSpan σ (nI a) (nI b) = some (1, σ) := by
    unfold kG_isSpan
    rw [if_neg nn0, if_neg (nI_nlt (by omega) (by omega)), if_neg (show ¬ (60 : Int32) < nI b from nI_nlt (a := 60) hb (by decide))]
  unfold kT_search
  rw [isWant_in hw]
  simp only [Option.bind_some, show ¬ ((1 : Int32) = 0) by decide, if_false, hspan, inr_ (show a < 61 by omega), if_true, ix_ (show a < 2 ^ 31 by omega), nI_1]
  obtain ⟨τ, l1, l2, l3⟩ := lp_inv (f := kT_search_s36 (nI w) (nI a) (nI b) (nI d)) (fun j s => ∃ τ, s = (nI (a + 1 + j), τ) ∧ Fx [18, 19] [] σ τ ∧ TB τ 18 19 a (a + 1 + j) (tbl σ R d w a j)) (fun τ => Fx [18, 19] [] σ τ ∧ TB τ 18 19 a (b + 1) (tbl σ R d w a (b - a))) (b - a) (by omega) (fun j s hj hs => by
    obtain ⟨τ, rfl, a1, a2⟩ := hs
    refine Or.inl ?_
    obtain ⟨e, he⟩ : ∃ e, e = a + 1 + j := ⟨_, rfl⟩
    have hF1 : Fx [18, 19] [] σ (sL τ 18 0 e (-1)) := a1.sL
    have hT1 := TI.fx hF1 rfl rfl hT
    have hmE : ∀ τ', Fx [18, 19] [] σ τ' → ∀ n, mE τ' R n = mE σ R n := fun τ' hF n => by
      unfold mE
      rw [fb_ct_cong (q := fbd σ n) (fun k _ => by unfold fbd; rw [hF.I 61 0 k, hF.I 58 0 k, hF.I 59 0 k])]
    have hcst : ∀ τ', Fx [18, 19] [] σ τ' → ∀ m n, cst τ' R d w m n = cst σ R d w m n := fun τ' hF m n => by
      unfold cst Sm zz
      congr 1
      congr 1
      · exact fb_sm_cong (fun k _ => by unfold prc; rw [hF.I 57 0])
      · congr 2
        exact fb_si_cong (fun k _ => by unfold rc; rw [hF.I 61 0 k, hF.I 58 0 k, hF.I 59 0 k, hF.I 60 0 k])
    have htb : ∀ m, m ≠ e → tbl σ R d w a (j + 1) m = tbl σ R d w a j m := fun m hm => if_neg (by omega)
    have hte : tbl σ R d w a (j + 1) e = bu (cand (tbl σ R d w a j) (mE σ R e) (fun m => cst σ R d w m e)) a (e - a) := by
      show (if e = a + (j + 1) then _ else _) = _
      rw [if_pos (by omega), show a + (j + 1) = e by omega, show e - a = j + 1 by omega]
    have hB1 : TB (sL τ 18 0 e (-1)) 18 19 a e (tbl σ R d w a j) := fun m h1 h2 => by
      rw [mLsL, if_neg (by omega), mIsL]
      exact a2 m h1 (by omega)
    rw [← he]
    simp only [kT_search_s36, nI_nlt (show e ≤ b by omega) (by omega), if_false, inr_ (show e < 61 by omega), if_true, ix_ (show e < 2 ^ 31 by omega), mayEnd_ok hT1, hmE _ hF1, Option.bind_some]
    by_cases c : mE σ R e = true
    · rw [if_pos c, if_neg (by decide)]
      obtain ⟨τ1, t1, t2, t3, t4, t5⟩ := last_ok (t := tbl σ R d w a j) hT1 hw hd (show a < e by omega) (by omega) (fun m y hy => by
        obtain ⟨x1, x2, x3, x4⟩ := tbl_bd hT hw j (by omega) m y hy
        exact ⟨by omega, by omega⟩) hB1 (by rw [mLsL, if_pos ⟨rfl, rfl, rfl⟩])
      rw [show (fun m => cst (sL τ 18 0 e (-1)) R d w m e) = (fun m => cst σ R d w m e) from funext fun m => hcst _ hF1 m e] at t4 t5
      rw [c] at hte
      rw [t1]
      refine ⟨_, rfl, τ1, by rw [nI_1, he]; rfl, hF1.tr t2, fun m h1 h2 => ?_⟩
      by_cases q : m = e
      · rw [q, hte]
        exact ⟨t4, t5⟩
      · rw [htb m q]
        exact t3 m h1 (by omega)
    · rw [if_neg c, if_pos rfl]
      refine ⟨_, rfl, _, by rw [nI_1, he]; rfl, hF1, fun m h1 h2 => ?_⟩
      by_cases q : m = e
      · have c' : mE σ R e = false := by simpa using c
        rw [q, hte, c', bu_none (fun _ => cand_no), mLsL, if_pos ⟨rfl, rfl, rfl⟩]
        exact ⟨rfl, fun y hy => by cases hy⟩
      · rw [htb m q]
        exact hB1 m h1 (by omega)) (fun s hs => by
    obtain ⟨τ, rfl, a1, a2⟩ := hs
    rw [show a + 1 + (b - a) = b + 1 by omega] at a2 ⊢
    exact ⟨τ, by simp only [kT_search_s36, nI_lt (show b < b + 1 by omega) (by omega), if_true], a1, a2⟩) (s := (nI (a + 1), sI (sL σ 18 0 a 0) 19 0 a 0)) ⟨_, rfl, (Fx.rf.sL).sI, fun m h1 h2 => by
      obtain rfl : m = a := by omega
      have e0 : tbl σ R d w m 0 m = some (0, 0) := if_pos rfl
      rw [e0, mLsI, mLsL, if_pos ⟨rfl, rfl, rfl⟩, mIsI, if_pos ⟨rfl, rfl, rfl⟩]
      exact ⟨rfl, fun y hy => by cases hy; rfl⟩⟩
  rw [l1]
  obtain ⟨m1, m2⟩ := l3 b (by omega) (by omega)
  simp only [Option.bind_some, kT_search_x77, inr_ (show b < 61 by omega), if_true, ix_ (show b < 2 ^ 31 by omega), cmp0]
  refine ⟨τ, ?_, l2, m1, m2⟩
  rw [m1]
  unfold lst
  cases q : tbl σ R d w a (b - a) b with
  | none => simp [ec]
  | some y =>
    obtain ⟨x1, x2, x3, x4⟩ := tbl_bd hT hw (b - a) (by omega) b y q
    rw [show ec (some y) = lN y.1 from rfl, if_neg (lN_m1 (by omega))]
    simp
def pp (o : CP) : Int32 := match o with
  | none => -1
  | some y => nI y.2
theorem leastCost_ok {σ : Mem} {R d w a b : Nat} (hT : TI σ R) (hw : w < 5) (hd : d ≤ a) (hab : a < b) (hb : b ≤ 60) : ∃ σ', kT_leastCost σ (nI w) (nI a) (nI b) (nI d) = some (ec (lst σ R d w a b), σ') ∧ Fx [18, 19] [] σ σ' := by
  obtain ⟨σ', h1, h2, h3, h4⟩ := search_ok hT hw hd hab hb
  unfold kT_leastCost
  rw [h1]
  refine ⟨σ', ?_, h2⟩
  cases q : lst σ R d w a b with
  | none => simp [ec]
  | some y => simp only [Option.bind_some, Option.isSome_some, if_true, show ¬ ((1 : Int32) = 0) by decide, if_false, inr_ (show b < 61 by omega), ix_ (show b < 2 ^ 31 by omega), h3, q]
theorem leastParts_ok {σ : Mem} {R d w a b : Nat} (hT : TI σ R) (hw : w < 5) (hd : d ≤ a) (hab : a < b) (hb : b ≤ 60) : ∃ σ', kT_leastParts σ (nI w) (nI a) (nI b) (nI d) = some (pp (lst σ R d w a b), σ') ∧ Fx [18, 19] [] σ σ' := by
  obtain ⟨σ', h1, h2, h3, h4⟩ := search_ok hT hw hd hab hb
  unfold kT_leastParts
  rw [h1]
  refine ⟨σ', ?_, h2⟩
  cases q : lst σ R d w a b with
  | none => simp [pp]
  | some y => simp only [Option.bind_some, Option.isSome_some, if_true, show ¬ ((1 : Int32) = 0) by decide, if_false, inr_ (show b < 61 by omega), ix_ (show b < 2 ^ 31 by omega), h4 y q, pp]
