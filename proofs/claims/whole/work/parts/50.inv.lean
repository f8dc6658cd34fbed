/-! the whole invariant -/
def DI (σ : Mem) (d : Nat) : Prop := d < 60 ∧ mI σ 1 0 5 = nI d ∧ mI σ 30 0 8 = nI d ∧ ∃ o, o ≤ 40 ∧ mI σ 1 0 6 = nI o ∧ mI σ 30 0 9 = nI o
def hadN (σ : Mem) (q d : Nat) : Nat := fb_ct (fun n => decide (mI σ 22 q n ≠ -1)) d
def mvd (σ : Mem) (q n : Nat) : Bool := decide (1 ≤ n) && (decide (mI σ 22 q (n - 1) ≠ -1) && (decide (mI σ 22 q n ≠ -1) && decide (mI σ 22 q (n - 1) ≠ mI σ 22 q n)))
def movN (σ : Mem) (q d : Nat) : Nat := fb_ct (mvd σ q) d
def CIv (σ : Mem) (N d : Nat) : Prop := ∀ q, q < N → mI σ 46 0 q = nI (hadN σ q d) ∧ mI σ 47 0 q = nI (movN σ q d)
def LV (σ : Mem) : Prop := mV σ 0 0 = true ∧ mV σ 1 0 = true ∧ mV σ 30 0 = true
def INV' (σ : Mem) (N d P R : Nat) : Prop := HI σ ∧ BI σ N ∧ DI σ d ∧ HS σ N d ∧ PI σ N d P ∧ CIv σ N d ∧ TI σ R ∧ LV σ
def INV (σ : Mem) : Prop := ∃ N d P R, INV' σ N d P R
/-- both answer alike, and the invariant goes on -/
def EQ2 {α : Type} (f g : Mem → Option (α × Mem)) (σ : Mem) : Prop := ∃ r σ1 σ2, f σ = some (r, σ1) ∧ g σ1 = some (r, σ2) ∧ INV σ2
def SL : List Nat := [8, 9, 10, 12, 13, 18, 19, 51, 53, 54, 55, 56, 63, 64]
def SM : List (Nat × Nat) := [(7, 4), (11, 5), (30, 0), (30, 22)]
theorem had_eq {σ σ' : Mem} {q d : Nat} (h : ∀ n, n < d → mI σ' 22 q n = mI σ 22 q n) : hadN σ' q d = hadN σ q d ∧ movN σ' q d = movN σ q d := by
  refine ⟨fb_ct_cong (fun n hn => by rw [h n hn]), fb_ct_cong (fun n hn => ?_)⟩
  unfold mvd
  rw [h n hn, h (n - 1) (by omega)]
theorem HS_eq {σ σ' : Mem} {N d : Nat} (h22 : ∀ q n, q < N → n < d → mI σ' 22 q n = mI σ 22 q n) (h49 : ∀ q n, n < d → mI σ' 49 0 (60 * q + n) = mI σ 49 0 (60 * q + n)) (hnv : ∀ f, NV σ N f → NV σ' N f) (hH : HS σ N d) : HS σ' N d := by
  intro n hn
  obtain ⟨a, b⟩ := hH n hn
  have hh : hist σ' N n = hist σ N n := funext fun q => by
    unfold hist
    rw [h49 q n hn]
  refine ⟨by rw [hh]; exact hnv _ a, fun q hq => ?_⟩
  rw [h49 q n hn, h22 q n hq hn, hh]
  exact b q hq
theorem INV'.scr {σ σ' : Mem} {N d P R : Nat} (h : Fx SL SM σ σ') (hI : INV' σ N d P R) : INV' σ' N d P R := by
  obtain ⟨i1, i2, i3, i4, i5, i6, i7, i8⟩ := hI
  refine ⟨HI.fx h rfl i1, BI.fx h rfl rfl i2, ?_, ?_, ?_, ?_, TI.fx h rfl rfl i7, ?_⟩
  · unfold DI at i3 ⊢
    rw [h.sI_ (t := 1) (k := 5) 0 rfl, h.sI_ (t := 30) (k := 8) 0 rfl, h.sI_ (t := 1) (k := 6) 0 rfl, h.sI_ (t := 30) (k := 9) 0 rfl]
    exact i3
  · exact HS_eq (fun q n _ _ => h.hI (ts := [22]) rfl 22 q n) (fun q n _ => h.hI (ts := [49]) rfl 49 0 _) (fun f hf => NV_eq (hvS_fx h rfl) (fun q _ => wq_fx h rfl q) hf) i4
  · obtain ⟨a, b, c, e⟩ := i5
    refine ⟨by rw [h.sI_ (t := 1) (k := 7) 0 rfl]; exact a, b, c, fun n h1 h2 q hq => ?_⟩
    rw [h.hI (ts := [22]) rfl 22 q n, PS_fx h rfl rfl rfl]
    exact e n h1 h2 q hq
  · intro q hq
    rw [h.hI (ts := [46]) rfl 46 0 q, h.hI (ts := [47]) rfl 47 0 q, (had_eq (fun n _ => h.hI (ts := [22]) rfl 22 q n)).1, (had_eq (fun n _ => h.hI (ts := [22]) rfl 22 q n)).2]
    exact i6 q hq
  · unfold LV
    rw [h.V, h.V, h.V]
    exact i8
theorem INV'.thr {σ : Mem} {N d P R : Nat} {v : Int32} (hI : INV' σ N d P R) : INV' (sI σ 30 0 0 v) N d P R := hI.scr (Fx.rf.sI (ht := by decide))
theorem INV'.up {σ σ' : Mem} {N d P P' R : Nat} (hI : INV' σ N d P R) (h : UPF σ σ') (h22 : ∀ q n, n < d → mI σ' 22 q n = mI σ 22 q n) (hP : PI σ' N d P') : INV' σ' N d P' R := by
  obtain ⟨i1, i2, i3, i4, i5, i6, i7, i8⟩ := hI
  refine ⟨HI.fx h rfl i1, BI.fx h rfl rfl i2, ?_, ?_, hP, ?_, TI.fx h rfl rfl i7, ?_⟩
  · unfold DI at i3 ⊢
    rw [h.sI_ (t := 1) (k := 5) 0 rfl, h.sI_ (t := 30) (k := 8) 0 rfl, h.sI_ (t := 1) (k := 6) 0 rfl, h.sI_ (t := 30) (k := 9) 0 rfl]
    exact i3
  · exact HS_eq (fun q n _ hn => h22 q n hn) (fun q n _ => h.hI (ts := [49]) rfl 49 0 _) (fun f hf => NV_eq (hvS_fx h rfl) (fun q _ => wq_fx h rfl q) hf) i4
  · intro q hq
    rw [h.hI (ts := [46]) rfl 46 0 q, h.hI (ts := [47]) rfl 47 0 q, (had_eq (h22 q)).1, (had_eq (h22 q)).2]
    exact i6 q hq
  · unfold LV
    rw [h.V, h.V, h.V]
    exact i8
theorem INV'.mp {σ σ' : Mem} {N d P R : Nat} (hI : INV' σ N d P R) (h : MPF σ σ') (h49 : ∀ q n, n < d → mI σ' 49 0 (60 * q + n) = mI σ 49 0 (60 * q + n)) : INV' σ' N d P R := by
  obtain ⟨i1, i2, i3, i4, i5, i6, i7, i8⟩ := hI
  refine ⟨HI.fx h rfl i1, BI.fx h rfl rfl i2, ?_, ?_, ?_, ?_, TI.fx h rfl rfl i7, ?_⟩
  · unfold DI at i3 ⊢
    rw [h.sI_ (t := 1) (k := 5) 0 rfl, h.sI_ (t := 30) (k := 8) 0 rfl, h.sI_ (t := 1) (k := 6) 0 rfl, h.sI_ (t := 30) (k := 9) 0 rfl]
    exact i3
  · exact HS_eq (fun q n _ _ => h.hI (ts := [22]) rfl 22 q n) h49 (fun f hf => NV_eq (hvS_fx h rfl) (fun q _ => wq_fx h rfl q) hf) i4
  · obtain ⟨a, b, c, e⟩ := i5
    refine ⟨by rw [h.sI_ (t := 1) (k := 7) 0 rfl]; exact a, b, c, fun n h1 h2 q hq => ?_⟩
    rw [h.hI (ts := [22]) rfl 22 q n, PS_cong (n - d) (fun n _ _ => ⟨hvN_fx h rfl n, wli_fx h rfl n N⟩) (fun hd q => by
      unfold hist
      rw [h49 q (d - 1) (by omega)])]
    exact e n h1 h2 q hq
  · intro q hq
    rw [h.hI (ts := [46]) rfl 46 0 q, h.hI (ts := [47]) rfl 47 0 q, (had_eq (fun n _ => h.hI (ts := [22]) rfl 22 q n)).1, (had_eq (fun n _ => h.hI (ts := [22]) rfl 22 q n)).2]
    exact i6 q hq
  · unfold LV
    rw [h.V, h.V, h.V]
    exact i8
/-! when the house changes -/
def HM (σ σ' : Mem) : Prop := ∀ p, isRm σ p = true → isRm σ' p = true ∧ mI σ' 31 0 p = mI σ 31 0 p ∧ mI σ' 33 0 p = mI σ 33 0 p ∧ (mI σ' 34 0 p = mI σ 34 0 p ∨ mI σ 34 0 p = -1)
theorem suS_mono {σ σ' : Mem} {w s : Nat} (h : HM σ σ') (hs : suS (hvS σ) w s = true) : suS (hvS σ') w s = true := by
  rw [suS_iff] at hs ⊢
  obtain ⟨a0, a1, a2, a3, a4, a5, a6, a7, a8⟩ := hs
  have hr : isRm σ (s / 32) = true := a0
  obtain ⟨b1, b2, b3, b4⟩ := h _ hr
  have k : (hvS σ').2.1 (s / 32) = (hvS σ).2.1 (s / 32) := by
    show (if isRm σ' (s / 32) = true then ix (mI σ' 31 0 (s / 32)) else 0) = (if isRm σ (s / 32) = true then ix (mI σ 31 0 (s / 32)) else 0)
    rw [if_pos b1, if_pos hr, b2]
  have u : (hvS σ').2.2.1 (s / 32) = (hvS σ).2.2.1 (s / 32) := by
    show (if isRm σ' (s / 32) = true then (if mI σ' 31 0 (s / 32) = 3 then ix (mI σ' 33 0 (s / 32)) else 1) else 0) = (if isRm σ (s / 32) = true then (if mI σ 31 0 (s / 32) = 3 then ix (mI σ 33 0 (s / 32)) else 1) else 0)
    rw [if_pos b1, if_pos hr, b2, b3]
  rw [k, u]
  refine ⟨b1, a1, a2, a3, a4, a5, a6, a7, fun hw => ?_⟩
  obtain ⟨c1, c2⟩ := a8 hw
  refine ⟨c1, ?_⟩
  have c3 : (if isRm σ (s / 32) = true then (if mI σ 34 0 (s / 32) = -1 then 99 else ix (mI σ 34 0 (s / 32))) else 0) = s / 32 + 1 := c2
  rw [if_pos hr] at c3
  show (if isRm σ' (s / 32) = true then (if mI σ' 34 0 (s / 32) = -1 then 99 else ix (mI σ' 34 0 (s / 32))) else 0) = s / 32 + 1
  rw [if_pos b1]
  rcases b4 with e | e
  · rw [e]; exact c3
  · rw [if_pos e] at c3; omega
theorem INV'.hs {σ σ' : Mem} {N d P P' R : Nat} (hI : INV' σ N d P R) (g : ∀ t i k, t ∉ HT → (t, k) ∉ [(1, 7), (30, 0)] → mI σ' t i k = mI σ t i k ∧ mL σ' t i k = mL σ t i k ∧ mR σ' t i k = mR σ t i k) (v : ∀ t i, t ≠ 20 → mV σ' t i = mV σ t i)
    (hH : HI σ') (hM : HM σ σ') (h17 : mI σ' 1 0 7 = nI P') (hP1 : d ≤ P') (hP2 : P' ≤ P) (hP3 : ∀ n, d ≤ n → n < P' → hvN σ' n = hvN σ n) : INV' σ' N d P' R := by
  obtain ⟨i1, i2, i3, i4, i5, i6, i7, i8⟩ := hI
  have gI : ∀ t i k, t ∉ HT → (t, k) ∉ [(1, 7), (30, 0)] → mI σ' t i k = mI σ t i k := fun t i k a b => (g t i k a b).1
  have h22 : ∀ q n, mI σ' 22 q n = mI σ 22 q n := fun q n => gI 22 q n (by decide) (by simp)
  have h49 : ∀ k, mI σ' 49 0 k = mI σ 49 0 k := fun k => gI 49 0 k (by decide) (by simp)
  have h40 : ∀ k, mI σ' 40 0 k = mI σ 40 0 k := fun k => gI 40 0 k (by decide) (by simp)
  have h41 : ∀ k, mI σ' 41 0 k = mI σ 41 0 k := fun k => gI 41 0 k (by decide) (by simp)
  have h43 : ∀ k, mI σ' 43 0 k = mI σ 43 0 k := fun k => gI 43 0 k (by decide) (by simp)
  have h44 : ∀ k, mI σ' 44 0 k = mI σ 44 0 k := fun k => gI 44 0 k (by decide) (by simp)
  have hwl : ∀ n i, WLi σ' n i = WLi σ n i := by
    intro n i
    induction i with
    | zero => rfl
    | succ i ih =>
      show WLi σ' n i ++ _ = WLi σ n i ++ _
      rw [ih]
      unfold wnt pe wq
      rw [h40, h41, h43, h44]
  refine ⟨hH, ?_, ?_, ?_, ?_, ?_, ?_, ?_⟩
  · obtain ⟨b1, b2, b3, b4, b5⟩ := i2
    refine ⟨b1, by rw [gI 5 0 1 (by decide) (by simp)]; exact b2, by rw [gI 30 0 20 (by decide) (by simp)]; exact b3, fun q hq => ?_, fun q hq => by rw [v 21 q (by omega), v 22 q (by omega)]; exact b5 q hq⟩
    have h0 := b4 q hq
    unfold BIq at h0 ⊢
    simp only [h40, h41, h43, h44, gI 42 0 q (by decide) (by simp), gI 45 0 q (by decide) (by simp), gI 21 q 0 (by decide) (by simp), gI 21 q 1 (by decide) (by simp), gI 21 q 2 (by decide) (by simp), gI 21 q 3 (by decide) (by simp), gI 21 q 4 (by decide) (by simp), gI 21 q 5 (by decide) (by simp), (g 21 q 6 (by decide) (by simp)).2.1, (g 48 0 q (by decide) (by simp)).2.1, (g 6 0 q (by decide) (by simp)).2.2]
    exact h0
  · unfold DI at i3 ⊢
    rw [gI 1 0 5 (by decide) (by simp), gI 30 0 8 (by decide) (by simp), gI 1 0 6 (by decide) (by simp), gI 30 0 9 (by decide) (by simp)]
    exact i3
  · refine HS_eq (fun q n _ _ => h22 q n) (fun q n _ => h49 _) (fun f hf => ⟨fun q hq s hs => ?_, hf.2⟩) i4
    unfold wq
    rw [h41]
    exact suS_mono hM (hf.1 q hq s hs)
  · refine ⟨h17, hP1, by have := i5.2.2.1; omega, fun n h1 h2 q hq => ?_⟩
    rw [h22, PS_cong (n - d) (fun n' a b => ⟨hP3 n' a (by omega), hwl n' N⟩) (fun _ q => by unfold hist; rw [h49])]
    exact i5.2.2.2 n h1 (by omega) q hq
  · intro q hq
    rw [gI 46 0 q (by decide) (by simp), gI 47 0 q (by decide) (by simp), (had_eq (fun n _ => h22 q n)).1, (had_eq (fun n _ => h22 q n)).2]
    exact i6 q hq
  · obtain ⟨a, b, c, e, f, k⟩ := i7
    refine ⟨a, by rw [gI 14 0 2 (by decide) (by simp)]; exact b, by rw [gI 30 0 32 (by decide) (by simp)]; exact c, fun w hw n hn' => ?_, fun j hj => ?_, fun j hj => ?_⟩
    · rw [gI 16 w n (by decide) (by simp), gI 57 0 _ (by decide) (by simp)]
      exact e w hw n hn'
    · rw [(g 17 0 j (by decide) (by simp)).2.2, gI 23 j 0 (by decide) (by simp), gI 23 j 1 (by decide) (by simp), gI 23 j 2 (by decide) (by simp), gI 23 j 3 (by decide) (by simp), gI 58 0 j (by decide) (by simp), gI 59 0 j (by decide) (by simp), gI 60 0 j (by decide) (by simp), gI 61 0 j (by decide) (by simp)]
      exact f j hj
    · rw [v 23 j (by omega), (g 17 0 j (by decide) (by simp)).2.2]
      exact k j hj
  · unfold LV
    rw [v 0 0 (by omega), v 1 0 (by omega), v 30 0 (by omega)]
    exact i8
theorem replan0 {σ : Mem} {d P : Nat} (h1 : mI σ 1 0 5 = nI d) (h2 : mI σ 1 0 7 = nI P) (hP : d ≤ P) (hP2 : P ≤ 60) : kG_replanFrom σ 0 = some ((), sI σ 1 0 7 (nI d)) := by
  unfold kG_replanFrom
  rw [h1, h2, show (0 : Int32) = nI 0 from rfl, jminN (by omega) (by omega), jmaxN (by omega) (by omega)]
  congr 4
  omega
theorem replanN {σ : Mem} {d P n : Nat} (h1 : mI σ 1 0 5 = nI d) (h2 : mI σ 1 0 7 = nI P) (hP : d ≤ P) (hP2 : P ≤ 60) (hn : n ≤ 60) : kG_replanFrom σ (nI n) = some ((), sI σ 1 0 7 (nI (max d (min P n)))) := by
  unfold kG_replanFrom
  rw [h1, h2, jminN (by omega) (by omega), jmaxN (by omega) (by omega)]
