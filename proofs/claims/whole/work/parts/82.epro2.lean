/-! promised, with the law's own row out -/
theorem INV'.out {σ : Mem} {N d P R : Nat} {v : Int64} (hI : INV' σ N d P R) : INV' (sL σ 0 0 0 v) N d P R := by
  have h : Fx [0] [] σ (sL σ 0 0 0 v) := Fx.rf.sL
  obtain ⟨i1, i2, i3, i4, i5, i6, i7, i8⟩ := hI
  refine ⟨HI.fx h rfl i1, BI.fx h rfl rfl i2, i3, ?_, ?_, i6, TI.fx h rfl rfl i7, i8⟩
  · exact HS_eq (fun q n _ _ => rfl) (fun q n _ => rfl) (fun f hf => NV_eq (hvS_fx h rfl) (fun q _ => wq_fx h rfl q) hf) i4
  · obtain ⟨a, b, c, e⟩ := i5
    refine ⟨a, b, c, fun n h1 h2 q hq => ?_⟩
    rw [PS_fx h rfl rfl rfl]
    exact e n h1 h2 q hq
theorem kG_prom_out {σ : Mem} {N d P R q k : Nat} {v : Int64} (hI : INV' σ N d P R) (hq : q < N) (hk : k < 9) : kG_promised (sL σ 0 0 0 v) (nI q) (nI k) = (kG_promised σ (nI q) (nI k)).map (fun p => (p.1, sL σ 0 0 0 v)) := by
  rw [promised_cls hI hq, promised_cls (INV'.out (v := v) hI) hq]
  have : k = 0 ∨ k = 1 ∨ k = 2 ∨ k = 3 ∨ k = 4 ∨ k = 5 ∨ k = 6 ∨ k = 7 ∨ k = 8 := by omega
  rcases this with rfl | rfl | rfl | rfl | rfl | rfl | rfl | rfl | rfl <;> rfl
theorem E_prom2 {σ : Mem} {x1 x2 : Int32} (hI : INV σ) : (∃ v, kG_promised σ x1 x2 = some (v, σ) ∧ kM_promised (sL σ 0 0 0 v) x1 x2 = some (v, sI (sL σ 0 0 0 v) 30 0 0 0) ∧ INV (sI (sL σ 0 0 0 v) 30 0 0 0)) ∨ ((∃ o, kB_at σ x1 = some (o, σ) ∧ (o = none ∨ (x2.toInt < 0 ∨ 8 < x2.toInt))) ∧ kM_promised σ x1 x2 = some (0, sI σ 30 0 0 1) ∧ INV (sI σ 30 0 0 1)) := by
  rcases E_promised (x1 := x1) (x2 := x2) hI with ⟨v, e1, e2, e3⟩ | ⟨e1, e2, e3⟩
  · left
    obtain ⟨N, d, P, R, hI⟩ := hI
    have hN := hI.2.1.1
    rcases i32 x1 N with ho | ho | ⟨q, hq, rfl⟩
    · rw [promised_none hI (Or.inl ho)] at e1; cases e1
    · rw [promised_none hI (Or.inr ho)] at e1; cases e1
    · rcases i32 x2 9 with h | h | ⟨k, hk, rfl⟩
      · have hn : ∀ c : Int32, 0 ≤ c → ¬ x2 = c := fun c hc z => by rw [z] at h; exact absurd h (Int32.not_lt.mpr hc)
        rw [promised_cls hI hq, if_neg (hn 0 (by decide)), if_neg (hn 1 (by decide)), if_neg (hn 2 (by decide)), if_neg (hn 3 (by decide)), if_neg (hn 4 (by decide)), if_neg (hn 5 (by decide)), if_neg (hn 6 (by decide)), if_neg (hn 7 (by decide)), if_neg (hn 8 (by decide))] at e1
        cases e1
      · have hn : ∀ c : Int32, c < 9 → ¬ x2 = c := fun c hc z => by rw [z] at h; exact absurd h (Int32.not_le.mpr hc)
        rw [promised_cls hI hq, if_neg (hn 0 (by decide)), if_neg (hn 1 (by decide)), if_neg (hn 2 (by decide)), if_neg (hn 3 (by decide)), if_neg (hn 4 (by decide)), if_neg (hn 5 (by decide)), if_neg (hn 6 (by decide)), if_neg (hn 7 (by decide)), if_neg (hn 8 (by decide))] at e1
        cases e1
      · obtain ⟨v', a, b⟩ := promised_in (INV'.out (v := v) hI) hq hk
        rw [kG_prom_out hI hq hk, e1] at a
        cases a
        exact ⟨v, e1, b, N, d, P, R, (INV'.out (v := v) hI).thr⟩
  · refine Or.inr ⟨?_, e2, e3⟩
    obtain ⟨N, d, P, R, hI⟩ := hI
    have hN := hI.2.1.1
    rcases i32 x1 N with ho | ho | ⟨q, hq, rfl⟩
    · exact ⟨none, at_out hI.2.1 (Or.inl ho), Or.inl rfl⟩
    · exact ⟨none, at_out hI.2.1 (Or.inr ho), Or.inl rfl⟩
    · refine ⟨some q, at_in hI.2.1 hq, Or.inr ?_⟩
      rcases i32 x2 9 with h | h | ⟨k, hk, rfl⟩
      · exact Or.inl (Int32.lt_iff_toInt_lt.mp h)
      · have h9 : (9 : Int32).toInt ≤ x2.toInt := Int32.le_iff_toInt_le.mp h
        have : (9 : Int32).toInt = 9 := by decide
        exact Or.inr (by omega)
      · obtain ⟨v, a, b⟩ := promised_in hI hq hk
        rw [a] at e1; cases e1
