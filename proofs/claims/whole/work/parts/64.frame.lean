/-! the class neither reads nor writes the reference's tags, the reference none of the class's -/
def ovH (σ ρ : Mem) : Mem := (fun t i k => if t < 30 then σ.1 t i k else ρ.1 t i k, fun t i k => if t < 30 then σ.2.1 t i k else ρ.2.1 t i k, fun t i k => if t < 30 then σ.2.2.1 t i k else ρ.2.2.1 t i k, fun t i => if t < 30 then σ.2.2.2 t i else ρ.2.2.2 t i)
section OVH
variable {σ ρ : Mem} {t i k n : Nat}
theorem mIc (h : t < 30) : mI (ovH σ ρ) t i k = mI σ t i k := if_pos h
theorem mLc (h : t < 30) : mL (ovH σ ρ) t i k = mL σ t i k := if_pos h
theorem mRc (h : t < 30) : mR (ovH σ ρ) t i k = mR σ t i k := if_pos h
theorem mVc (h : t < 30) : mV (ovH σ ρ) t i = mV σ t i := if_pos h
theorem mIm (h : 30 ≤ t) : mI (ovH ρ σ) t i k = mI σ t i k := if_neg (by omega)
theorem mLm (h : 30 ≤ t) : mL (ovH ρ σ) t i k = mL σ t i k := if_neg (by omega)
theorem mRm (h : 30 ≤ t) : mR (ovH ρ σ) t i k = mR σ t i k := if_neg (by omega)
theorem mVm (h : 30 ≤ t) : mV (ovH ρ σ) t i = mV σ t i := if_neg (by omega)
theorem ovm {σ τ : Mem} (h1 : ∀ t i k, mI σ t i k = mI τ t i k) (h2 : ∀ t i k, mL σ t i k = mL τ t i k) (h3 : ∀ t i k, mR σ t i k = mR τ t i k) (h4 : ∀ t i, mV σ t i = mV τ t i) : σ = τ :=
  Prod.ext (funext fun t => funext fun i => funext fun k => h1 t i k) (Prod.ext (funext fun t => funext fun i => funext fun k => h2 t i k) (Prod.ext (funext fun t => funext fun i => funext fun k => h3 t i k) (funext fun t => funext fun i => h4 t i)))
theorem ov_if {α : Type} {t' : Nat} {p : Prop} {hp : Decidable p} {v a b : α} (h : t < 30) (hh : p → t' = t) : (if p then v else if t' < 30 then a else b) = if t' < 30 then (if p then v else a) else b := by
  by_cases c : p
  · have := hh c
    rw [if_pos c, if_pos (by omega), if_pos c]
  · rw [if_neg c, if_neg c]
theorem ov_ifm {α : Type} {t' : Nat} {p : Prop} {hp : Decidable p} {v a b : α} (h : 30 ≤ t) (hh : p → t' = t) : (if p then v else if t' < 30 then a else b) = if t' < 30 then a else (if p then v else b) := by
  by_cases c : p
  · have := hh c
    rw [if_pos c, if_neg (by omega), if_pos c]
  · rw [if_neg c, if_neg c]
theorem sIc {v : Int32} (h : t < 30) : sI (ovH σ ρ) t i k v = ovH (sI σ t i k v) ρ := ovm (fun _ _ _ => ov_if h (fun z => z.1)) (fun _ _ _ => rfl) (fun _ _ _ => rfl) (fun _ _ => rfl)
theorem sLc {v : Int64} (h : t < 30) : sL (ovH σ ρ) t i k v = ovH (sL σ t i k v) ρ := ovm (fun _ _ _ => rfl) (fun _ _ _ => ov_if h (fun z => z.1)) (fun _ _ _ => rfl) (fun _ _ => rfl)
theorem sRc {v : Option Nat} (h : t < 30) : sR (ovH σ ρ) t i k v = ovH (sR σ t i k v) ρ := ovm (fun _ _ _ => rfl) (fun _ _ _ => rfl) (fun _ _ _ => ov_if h (fun z => z.1)) (fun _ _ => rfl)
theorem fIc {v : Int32} (h : t < 30) : fillI (ovH σ ρ) t i n v = ovH (fillI σ t i n v) ρ := ovm (fun _ _ _ => ov_if h (fun z => z.1)) (fun _ _ _ => rfl) (fun _ _ _ => rfl) (fun _ _ => rfl)
theorem sIm {v : Int32} (h : 30 ≤ t) : sI (ovH ρ σ) t i k v = ovH ρ (sI σ t i k v) := ovm (fun _ _ _ => ov_ifm h (fun z => z.1)) (fun _ _ _ => rfl) (fun _ _ _ => rfl) (fun _ _ => rfl)
theorem sLm {v : Int64} (h : 30 ≤ t) : sL (ovH ρ σ) t i k v = ovH ρ (sL σ t i k v) := ovm (fun _ _ _ => rfl) (fun _ _ _ => ov_ifm h (fun z => z.1)) (fun _ _ _ => rfl) (fun _ _ => rfl)
theorem sRm {v : Option Nat} (h : 30 ≤ t) : sR (ovH ρ σ) t i k v = ovH ρ (sR σ t i k v) := ovm (fun _ _ _ => rfl) (fun _ _ _ => rfl) (fun _ _ _ => ov_ifm h (fun z => z.1)) (fun _ _ => rfl)
end OVH
theorem bindF {α β γ : Type} {o : Option α} {f : α → β} {g : β → Option γ} : (Option.map f o).bind g = o.bind (fun x => g (f x)) := by cases o <;> rfl
theorem mapF {α β γ : Type} {o : Option α} {f : α → Option β} {g : β → γ} : Option.map g (o.bind f) = o.bind (fun x => Option.map g (f x)) := by cases o <;> rfl
theorem mapI {α β : Type} {p : Prop} {hp : Decidable p} {g : α → β} {a b : Option α} : Option.map g (if p then a else b) = if p then Option.map g a else Option.map g b := by
  by_cases c : p
  · rw [if_pos c, if_pos c]
  · rw [if_neg c, if_neg c]
theorem mapE {α β γ : Type} {o : Option α} {g : β → γ} {a : Option β} {f : α → Option β} : Option.map g (o.elim a f) = o.elim (Option.map g a) (fun x => Option.map g (f x)) := by cases o <;> rfl
theorem elimF {α β γ δ ε : Type} {a : α → γ} {b : β → δ} {f : γ → ε} {g : δ → ε} {s : α ⊕ β} : Sum.elim f g (Sum.map a b s) = Sum.elim (fun x => f (a x)) (fun x => g (b x)) s := by cases s <;> rfl
theorem mapS {α β γ δ : Type} {m : γ → δ} {f : α → Option γ} {g : β → Option γ} {s : α ⊕ β} : Option.map m (Sum.elim f g s) = Sum.elim (fun x => Option.map m (f x)) (fun x => Option.map m (g x)) s := by cases s <;> rfl
theorem loopM {S E S' E' : Type} {f : S → Option (S ⊕ E)} {f' : S' → Option (S' ⊕ E')} {a : S → S'} {b : E → E'} (h : ∀ s, f' (a s) = (f s).map (Sum.map a b)) : ∀ n s, loopF n f' (a s) = (loopF n f s).map b
  | 0, _ => rfl
  | n + 1, s => by
    show (match f' (a s) with | none => none | some (.inl s') => loopF n f' s' | some (.inr e) => some e) = Option.map b (match f s with | none => none | some (.inl s') => loopF n f s' | some (.inr e) => some e)
    rw [h s]
    cases f s with
    | none => rfl
    | some y => cases y with
      | inl s' => exact loopM h n s'
      | inr e => rfl
theorem fr_kB_at {ρ : Mem} (σ : Mem) (x1 : Int32) : kB_at (ovH σ ρ) x1 = (kB_at σ x1).map (fun (x : Option Nat × Mem) => (x.1, (ovH x.2 ρ))) := by
  simp only [kB_at, bindF, mapF, mapI, mapE, Option.map_some, Option.map_none, Sum.map_inl, Sum.map_inr, elimF, mapS, mIc, mLc, mRc, mVc, sIc, sLc, sRc, fIc, Nat.reduceLT]
theorem fr_kG_isNight {ρ : Mem} (σ : Mem) (x0 : Int32) : kG_isNight (ovH σ ρ) x0 = (kG_isNight σ x0).map (fun (x : Int32 × Mem) => (x.1, (ovH x.2 ρ))) := by
  simp only [kG_isNight, bindF, mapF, mapI, mapE, Option.map_some, Option.map_none, Sum.map_inl, Sum.map_inr, elimF, mapS, mIc, mLc, mRc, mVc, sIc, sLc, sRc, fIc, Nat.reduceLT]
theorem fr_kQ_setSpot {ρ : Mem} (σ : Mem) (x0 : Nat) (x1 : Int32) (x2 : Int32) : kQ_setSpot (ovH σ ρ) x0 x1 x2 = (kQ_setSpot σ x0 x1 x2).map (fun (x : Unit × Mem) => (x.1, (ovH x.2 ρ))) := by
  simp only [kQ_setSpot, bindF, mapF, mapI, mapE, Option.map_some, Option.map_none, Sum.map_inl, Sum.map_inr, elimF, mapS, mIc, mLc, mRc, mVc, sIc, sLc, sRc, fIc, Nat.reduceLT, fr_kG_isNight]
theorem fr_kQ_stands {ρ : Mem} (σ : Mem) (x0 : Nat) : kQ_stands (ovH σ ρ) x0 = (kQ_stands σ x0).map (fun (x : Int32 × Mem) => (x.1, (ovH x.2 ρ))) := by
  simp only [kQ_stands, bindF, mapF, mapI, mapE, Option.map_some, Option.map_none, Sum.map_inl, Sum.map_inr, elimF, mapS, mIc, mLc, mRc, mVc, sIc, sLc, sRc, fIc, Nat.reduceLT]
theorem fr_kQ_covers {ρ : Mem} (σ : Mem) (x0 : Nat) (x1 : Int32) : kQ_covers (ovH σ ρ) x0 x1 = (kQ_covers σ x0 x1).map (fun (x : Int32 × Mem) => (x.1, (ovH x.2 ρ))) := by
  simp only [kQ_covers, bindF, mapF, mapI, mapE, Option.map_some, Option.map_none, Sum.map_inl, Sum.map_inr, elimF, mapS, mIc, mLc, mRc, mVc, sIc, sLc, sRc, fIc, Nat.reduceLT]
theorem fr_kP_gather_s7 {ρ : Mem} (x1 : Int32) (z0 : Int32) (σ : Mem) : kP_gather_s7 x1 (z0, ovH σ ρ) = (kP_gather_s7 x1 (z0, σ)).map (Sum.map (fun (x : Int32 × Mem) => (x.1, (ovH x.2 ρ))) (fun (x : Mem) => (ovH x ρ))) := by
  simp only [kP_gather_s7, bindF, mapF, mapI, mapE, Option.map_some, Option.map_none, Sum.map_inl, Sum.map_inr, elimF, mapS, mIc, mLc, mRc, mVc, sIc, sLc, sRc, fIc, Nat.reduceLT, fr_kB_at, fr_kQ_setSpot, fr_kQ_stands, fr_kQ_covers]
theorem fl_kP_gather_s7 {ρ : Mem} (x1 : Int32) (z0 : Int32) (σ : Mem) : loopF FU (kP_gather_s7 x1) (z0, ovH σ ρ) = (loopF FU (kP_gather_s7 x1) (z0, σ)).map (fun (x : Mem) => (ovH x ρ)) :=
  loopM (a := (fun (x : Int32 × Mem) => (x.1, (ovH x.2 ρ)))) (b := (fun (x : Mem) => (ovH x ρ))) (fun s => fr_kP_gather_s7 x1 s.1 s.2) FU (z0, σ)
theorem fr_kP_gather_x100 {ρ : Mem} (σ : Mem)  : kP_gather_x100 (ovH σ ρ) = (kP_gather_x100 σ).map (fun (x : Unit × Mem) => (x.1, (ovH x.2 ρ))) := by
  simp only [kP_gather_x100, bindF, mapF, mapI, mapE, Option.map_some, Option.map_none, Sum.map_inl, Sum.map_inr, elimF, mapS, mIc, mLc, mRc, mVc, sIc, sLc, sRc, fIc, Nat.reduceLT]
theorem fr_kP_gather {ρ : Mem} (σ : Mem) (x1 : Int32) : kP_gather (ovH σ ρ) x1 = (kP_gather σ x1).map (fun (x : Unit × Mem) => (x.1, (ovH x.2 ρ))) := by
  simp only [kP_gather, bindF, mapF, mapI, mapE, Option.map_some, Option.map_none, Sum.map_inl, Sum.map_inr, elimF, mapS, mIc, mLc, mRc, mVc, sIc, sLc, sRc, fIc, Nat.reduceLT, fl_kP_gather_s7, fr_kP_gather_x100]
theorem fr_kJ_fill {ρ : Mem} (σ : Mem) (t : Nat) (i : Nat) (n : Nat) (v : Int32) (h : t < 30) : kJ_fill (ovH σ ρ) t i n v = (kJ_fill σ t i n v).map (fun (x : Unit × Mem) => (x.1, (ovH x.2 ρ))) := by
  simp only [kJ_fill, fIc h, Option.map_some]
theorem fr_kH_roomAt {ρ : Mem} (σ : Mem) (x1 : Int32) : kH_roomAt (ovH σ ρ) x1 = (kH_roomAt σ x1).map (fun (x : Option Nat × Mem) => (x.1, (ovH x.2 ρ))) := by
  simp only [kH_roomAt, bindF, mapF, mapI, mapE, Option.map_some, Option.map_none, Sum.map_inl, Sum.map_inr, elimF, mapS, mIc, mLc, mRc, mVc, sIc, sLc, sRc, fIc, Nat.reduceLT]
theorem fr_kR_stateIn {ρ : Mem} (σ : Mem) (x0 : Nat) (x1 : Int32) : kR_stateIn (ovH σ ρ) x0 x1 = (kR_stateIn σ x0 x1).map (fun (x : Int32 × Mem) => (x.1, (ovH x.2 ρ))) := by
  simp only [kR_stateIn, bindF, mapF, mapI, mapE, Option.map_some, Option.map_none, Sum.map_inl, Sum.map_inr, elimF, mapS, mIc, mLc, mRc, mVc, sIc, sLc, sRc, fIc, Nat.reduceLT]
theorem fr_kR_isOpen {ρ : Mem} (σ : Mem) (x0 : Nat) (x1 : Int32) : kR_isOpen (ovH σ ρ) x0 x1 = (kR_isOpen σ x0 x1).map (fun (x : Int32 × Mem) => (x.1, (ovH x.2 ρ))) := by
  simp only [kR_isOpen, bindF, mapF, mapI, mapE, Option.map_some, Option.map_none, Sum.map_inl, Sum.map_inr, elimF, mapS, mIc, mLc, mRc, mVc, sIc, sLc, sRc, fIc, Nat.reduceLT, fr_kR_stateIn]
theorem fr_kR_units {ρ : Mem} (σ : Mem) (x0 : Nat) : kR_units (ovH σ ρ) x0 = (kR_units σ x0).map (fun (x : Int32 × Mem) => (x.1, (ovH x.2 ρ))) := by
  simp only [kR_units, bindF, mapF, mapI, mapE, Option.map_some, Option.map_none, Sum.map_inl, Sum.map_inr, elimF, mapS, mIc, mLc, mRc, mVc, sIc, sLc, sRc, fIc, Nat.reduceLT]
theorem fr_kV_begin_j117 {ρ : Mem} (σ : Mem) (x1 : Int32) (x2 : Int32) (y0 : Int32) (y1 : Int32) : kV_begin_j117 (ovH σ ρ) x1 x2 y0 y1 = (kV_begin_j117 σ x1 x2 y0 y1).map (Sum.map (fun (x : Int32 × Mem) => (x.1, (ovH x.2 ρ))) (fun (x : Mem) => (ovH x ρ))) := by
  simp only [kV_begin_j117, bindF, mapF, mapI, mapE, Option.map_some, Option.map_none, Sum.map_inl, Sum.map_inr, elimF, mapS, mIc, mLc, mRc, mVc, sIc, sLc, sRc, fIc, Nat.reduceLT]
theorem fr_kV_begin_j116 {ρ : Mem} (σ : Mem) (x1 : Int32) (x2 : Int32) (y0 : Int32) : kV_begin_j116 (ovH σ ρ) x1 x2 y0 = (kV_begin_j116 σ x1 x2 y0).map (Sum.map (fun (x : Int32 × Mem) => (x.1, (ovH x.2 ρ))) (fun (x : Mem) => (ovH x ρ))) := by
  simp only [kV_begin_j116, bindF, mapF, mapI, mapE, Option.map_some, Option.map_none, Sum.map_inl, Sum.map_inr, elimF, mapS, mIc, mLc, mRc, mVc, sIc, sLc, sRc, fIc, Nat.reduceLT, fr_kV_begin_j117]
theorem fr_kV_isFree {ρ : Mem} (σ : Mem) (x1 : Int32) (x2 : Int32) : kV_isFree (ovH σ ρ) x1 x2 = (kV_isFree σ x1 x2).map (fun (x : Int32 × Mem) => (x.1, (ovH x.2 ρ))) := by
  simp only [kV_isFree, bindF, mapF, mapI, mapE, Option.map_some, Option.map_none, Sum.map_inl, Sum.map_inr, elimF, mapS, mIc, mLc, mRc, mVc, sIc, sLc, sRc, fIc, Nat.reduceLT]
theorem fr_kV_begin_s23 {ρ : Mem} (x1 : Int32) (z0 : Int32) (σ : Mem) : kV_begin_s23 x1 (z0, ovH σ ρ) = (kV_begin_s23 x1 (z0, σ)).map (Sum.map (fun (x : Int32 × Mem) => (x.1, (ovH x.2 ρ))) (fun (x : Mem) => (ovH x ρ))) := by
  simp only [kV_begin_s23, bindF, mapF, mapI, mapE, Option.map_some, Option.map_none, Sum.map_inl, Sum.map_inr, elimF, mapS, mIc, mLc, mRc, mVc, sIc, sLc, sRc, fIc, Nat.reduceLT, fr_kH_roomAt, fr_kR_isOpen, fr_kR_units, fr_kV_begin_j116, fr_kV_isFree, fr_kV_begin_j117]
theorem fl_kV_begin_s23 {ρ : Mem} (x1 : Int32) (z0 : Int32) (σ : Mem) : loopF FU (kV_begin_s23 x1) (z0, ovH σ ρ) = (loopF FU (kV_begin_s23 x1) (z0, σ)).map (fun (x : Mem) => (ovH x ρ)) :=
  loopM (a := (fun (x : Int32 × Mem) => (x.1, (ovH x.2 ρ)))) (b := (fun (x : Mem) => (ovH x ρ))) (fun s => fr_kV_begin_s23 x1 s.1 s.2) FU (z0, σ)
theorem fr_kV_begin_x127 {ρ : Mem} (σ : Mem)  : kV_begin_x127 (ovH σ ρ) = (kV_begin_x127 σ).map (fun (x : Unit × Mem) => (x.1, (ovH x.2 ρ))) := by
  simp only [kV_begin_x127, bindF, mapF, mapI, mapE, Option.map_some, Option.map_none, Sum.map_inl, Sum.map_inr, elimF, mapS, mIc, mLc, mRc, mVc, sIc, sLc, sRc, fIc, Nat.reduceLT]
theorem fr_kV_begin {ρ : Mem} (σ : Mem) (x1 : Int32) : kV_begin (ovH σ ρ) x1 = (kV_begin σ x1).map (fun (x : Unit × Mem) => (x.1, (ovH x.2 ρ))) := by
  simp only [kV_begin, bindF, mapF, mapI, mapE, Option.map_some, Option.map_none, Sum.map_inl, Sum.map_inr, elimF, mapS, mIc, mLc, mRc, mVc, sIc, sLc, sRc, fIc, Nat.reduceLT, fr_kJ_fill, fl_kV_begin_s23, fr_kV_begin_x127]
theorem fr_kG_isWant {ρ : Mem} (σ : Mem) (x0 : Int32) : kG_isWant (ovH σ ρ) x0 = (kG_isWant σ x0).map (fun (x : Int32 × Mem) => (x.1, (ovH x.2 ρ))) := by
  simp only [kG_isWant, bindF, mapF, mapI, mapE, Option.map_some, Option.map_none, Sum.map_inl, Sum.map_inr, elimF, mapS, mIc, mLc, mRc, mVc, sIc, sLc, sRc, fIc, Nat.reduceLT]
theorem fr_kV_addNeed {ρ : Mem} (σ : Mem) (x1 : Int32) : kV_addNeed (ovH σ ρ) x1 = (kV_addNeed σ x1).map (fun (x : Unit × Mem) => (x.1, (ovH x.2 ρ))) := by
  simp only [kV_addNeed, bindF, mapF, mapI, mapE, Option.map_some, Option.map_none, Sum.map_inl, Sum.map_inr, elimF, mapS, mIc, mLc, mRc, mVc, sIc, sLc, sRc, fIc, Nat.reduceLT, fr_kG_isWant]
theorem fr_kV_fits {ρ : Mem} (σ : Mem)  : kV_fits (ovH σ ρ) = (kV_fits σ).map (fun (x : Int32 × Mem) => (x.1, (ovH x.2 ρ))) := by
  simp only [kV_fits, bindF, mapF, mapI, mapE, Option.map_some, Option.map_none, Sum.map_inl, Sum.map_inr, elimF, mapS, mIc, mLc, mRc, mVc, sIc, sLc, sRc, fIc, Nat.reduceLT]
theorem fr_kV_dropNeed {ρ : Mem} (σ : Mem) (x1 : Int32) : kV_dropNeed (ovH σ ρ) x1 = (kV_dropNeed σ x1).map (fun (x : Unit × Mem) => (x.1, (ovH x.2 ρ))) := by
  simp only [kV_dropNeed, bindF, mapF, mapI, mapE, Option.map_some, Option.map_none, Sum.map_inl, Sum.map_inr, elimF, mapS, mIc, mLc, mRc, mVc, sIc, sLc, sRc, fIc, Nat.reduceLT, fr_kG_isWant]
theorem fr_kP_keepThose_s2 {ρ : Mem} (x1 : Int32) (z0 : Int32) (σ : Mem) : kP_keepThose_s2 x1 (z0, ovH σ ρ) = (kP_keepThose_s2 x1 (z0, σ)).map (Sum.map (fun (x : Int32 × Mem) => (x.1, (ovH x.2 ρ))) (fun (x : Mem) => (ovH x ρ))) := by
  simp only [kP_keepThose_s2, bindF, mapF, mapI, mapE, Option.map_some, Option.map_none, Sum.map_inl, Sum.map_inr, elimF, mapS, mIc, mLc, mRc, mVc, sIc, sLc, sRc, fIc, Nat.reduceLT, fr_kV_addNeed, fr_kV_fits, fr_kV_dropNeed]
theorem fl_kP_keepThose_s2 {ρ : Mem} (x1 : Int32) (z0 : Int32) (σ : Mem) : loopF FU (kP_keepThose_s2 x1) (z0, ovH σ ρ) = (loopF FU (kP_keepThose_s2 x1) (z0, σ)).map (fun (x : Mem) => (ovH x ρ)) :=
  loopM (a := (fun (x : Int32 × Mem) => (x.1, (ovH x.2 ρ)))) (b := (fun (x : Mem) => (ovH x ρ))) (fun s => fr_kP_keepThose_s2 x1 s.1 s.2) FU (z0, σ)
theorem fr_kP_keepThose_x88 {ρ : Mem} (σ : Mem)  : kP_keepThose_x88 (ovH σ ρ) = (kP_keepThose_x88 σ).map (fun (x : Unit × Mem) => (x.1, (ovH x.2 ρ))) := by
  simp only [kP_keepThose_x88, bindF, mapF, mapI, mapE, Option.map_some, Option.map_none, Sum.map_inl, Sum.map_inr, elimF, mapS, mIc, mLc, mRc, mVc, sIc, sLc, sRc, fIc, Nat.reduceLT]
theorem fr_kP_keepThose {ρ : Mem} (σ : Mem) (x1 : Int32) : kP_keepThose (ovH σ ρ) x1 = (kP_keepThose σ x1).map (fun (x : Unit × Mem) => (x.1, (ovH x.2 ρ))) := by
  simp only [kP_keepThose, bindF, mapF, mapI, mapE, Option.map_some, Option.map_none, Sum.map_inl, Sum.map_inr, elimF, mapS, mIc, mLc, mRc, mVc, sIc, sLc, sRc, fIc, Nat.reduceLT, fl_kP_keepThose_s2, fr_kP_keepThose_x88]
theorem fr_kQ_spotIn {ρ : Mem} (σ : Mem) (x0 : Nat) (x1 : Int32) : kQ_spotIn (ovH σ ρ) x0 x1 = (kQ_spotIn σ x0 x1).map (fun (x : Int32 × Mem) => (x.1, (ovH x.2 ρ))) := by
  simp only [kQ_spotIn, bindF, mapF, mapI, mapE, Option.map_some, Option.map_none, Sum.map_inl, Sum.map_inr, elimF, mapS, mIc, mLc, mRc, mVc, sIc, sLc, sRc, fIc, Nat.reduceLT, fr_kG_isNight]
theorem fr_kG_placeOf {ρ : Mem} (σ : Mem) (x0 : Int32) : kG_placeOf (ovH σ ρ) x0 = (kG_placeOf σ x0).map (fun (x : Int32 × Mem) => (x.1, (ovH x.2 ρ))) := by
  simp only [kG_placeOf, bindF, mapF, mapI, mapE, Option.map_some, Option.map_none, Sum.map_inl, Sum.map_inr, elimF, mapS, mIc, mLc, mRc, mVc, sIc, sLc, sRc, fIc, Nat.reduceLT]
theorem fr_kG_bedOf {ρ : Mem} (σ : Mem) (x0 : Int32) : kG_bedOf (ovH σ ρ) x0 = (kG_bedOf σ x0).map (fun (x : Int32 × Mem) => (x.1, (ovH x.2 ρ))) := by
  simp only [kG_bedOf, bindF, mapF, mapI, mapE, Option.map_some, Option.map_none, Sum.map_inl, Sum.map_inr, elimF, mapS, mIc, mLc, mRc, mVc, sIc, sLc, sRc, fIc, Nat.reduceLT]
theorem fr_kG_isSuite {ρ : Mem} (σ : Mem) (x0 : Int32) : kG_isSuite (ovH σ ρ) x0 = (kG_isSuite σ x0).map (fun (x : Int32 × Mem) => (x.1, (ovH x.2 ρ))) := by
  simp only [kG_isSuite, bindF, mapF, mapI, mapE, Option.map_some, Option.map_none, Sum.map_inl, Sum.map_inr, elimF, mapS, mIc, mLc, mRc, mVc, sIc, sLc, sRc, fIc, Nat.reduceLT]
theorem fr_kV_turn {ρ : Mem} (σ : Mem) (x1 : Int32) (x2 : Int32) (x3 : Int32) : kV_turn (ovH σ ρ) x1 x2 x3 = (kV_turn σ x1 x2 x3).map (fun (x : Unit × Mem) => (x.1, (ovH x.2 ρ))) := by
  simp only [kV_turn, bindF, mapF, mapI, mapE, Option.map_some, Option.map_none, Sum.map_inl, Sum.map_inr, elimF, mapS, mIc, mLc, mRc, mVc, sIc, sLc, sRc, fIc, Nat.reduceLT, fr_kH_roomAt, fr_kV_isFree]
theorem fr_kV_take_j72 {ρ : Mem} (σ : Mem) (x2 : Int32) (x3 : Int32) (x4 : Int32) (x5 : Int32) : kV_take_j72 (ovH σ ρ) x2 x3 x4 x5 = (kV_take_j72 σ x2 x3 x4 x5).map (fun (x : Int32 × Mem) => (x.1, (ovH x.2 ρ))) := by
  simp only [kV_take_j72, bindF, mapF, mapI, mapE, Option.map_some, Option.map_none, Sum.map_inl, Sum.map_inr, elimF, mapS, mIc, mLc, mRc, mVc, sIc, sLc, sRc, fIc, Nat.reduceLT, fr_kV_fits, fr_kV_addNeed, fr_kV_turn]
theorem fr_kV_take_j45 {ρ : Mem} (σ : Mem) (x2 : Int32) (x3 : Int32) (x4 : Int32) (x5 : Int32) : kV_take_j45 (ovH σ ρ) x2 x3 x4 x5 = (kV_take_j45 σ x2 x3 x4 x5).map (fun (x : Int32 × Mem) => (x.1, (ovH x.2 ρ))) := by
  simp only [kV_take_j45, bindF, mapF, mapI, mapE, Option.map_some, Option.map_none, Sum.map_inl, Sum.map_inr, elimF, mapS, mIc, mLc, mRc, mVc, sIc, sLc, sRc, fIc, Nat.reduceLT, fr_kV_dropNeed, fr_kV_turn, fr_kV_take_j72]
theorem fr_kV_take {ρ : Mem} (σ : Mem) (x1 : Int32) (x2 : Int32) : kV_take (ovH σ ρ) x1 x2 = (kV_take σ x1 x2).map (fun (x : Int32 × Mem) => (x.1, (ovH x.2 ρ))) := by
  simp only [kV_take, bindF, mapF, mapI, mapE, Option.map_some, Option.map_none, Sum.map_inl, Sum.map_inr, elimF, mapS, mIc, mLc, mRc, mVc, sIc, sLc, sRc, fIc, Nat.reduceLT, fr_kG_placeOf, fr_kG_bedOf, fr_kG_isSuite, fr_kV_isFree, fr_kV_take_j45]
theorem fr_kP_spotAgain {ρ : Mem} (σ : Mem) (x1 : Nat) (x2 : Int32) : kP_spotAgain (ovH σ ρ) x1 x2 = (kP_spotAgain σ x1 x2).map (fun (x : Int32 × Mem) => (x.1, (ovH x.2 ρ))) := by
  simp only [kP_spotAgain, bindF, mapF, mapI, mapE, Option.map_some, Option.map_none, Sum.map_inl, Sum.map_inr, elimF, mapS, mIc, mLc, mRc, mVc, sIc, sLc, sRc, fIc, Nat.reduceLT, fr_kQ_spotIn, fr_kV_take]
theorem fr_kP_makeNight_s38 {ρ : Mem} (x1 : Int32) (z0 : Int32) (σ : Mem) : kP_makeNight_s38 x1 (z0, ovH σ ρ) = (kP_makeNight_s38 x1 (z0, σ)).map (Sum.map (fun (x : Int32 × Mem) => (x.1, (ovH x.2 ρ))) (fun (x : Mem) => (ovH x ρ))) := by
  simp only [kP_makeNight_s38, bindF, mapF, mapI, mapE, Option.map_some, Option.map_none, Sum.map_inl, Sum.map_inr, elimF, mapS, mIc, mLc, mRc, mVc, sIc, sLc, sRc, fIc, Nat.reduceLT, fr_kP_spotAgain, fr_kQ_setSpot]
theorem fl_kP_makeNight_s38 {ρ : Mem} (x1 : Int32) (z0 : Int32) (σ : Mem) : loopF FU (kP_makeNight_s38 x1) (z0, ovH σ ρ) = (loopF FU (kP_makeNight_s38 x1) (z0, σ)).map (fun (x : Mem) => (ovH x ρ)) :=
  loopM (a := (fun (x : Int32 × Mem) => (x.1, (ovH x.2 ρ)))) (b := (fun (x : Mem) => (ovH x ρ))) (fun s => fr_kP_makeNight_s38 x1 s.1 s.2) FU (z0, σ)
theorem fr_kG_spotCode {ρ : Mem} (σ : Mem) (x0 : Int32) (x1 : Int32) (x2 : Int32) : kG_spotCode (ovH σ ρ) x0 x1 x2 = (kG_spotCode σ x0 x1 x2).map (fun (x : Int32 × Mem) => (x.1, (ovH x.2 ρ))) := by
  simp only [kG_spotCode, bindF, mapF, mapI, mapE, Option.map_some, Option.map_none, Sum.map_inl, Sum.map_inr, elimF, mapS, mIc, mLc, mRc, mVc, sIc, sLc, sRc, fIc, Nat.reduceLT]
theorem fr_kP_firstSuite_s2 {ρ : Mem}  (z0 : Int32) (σ : Mem) : kP_firstSuite_s2  (z0, ovH σ ρ) = (kP_firstSuite_s2  (z0, σ)).map (Sum.map (fun (x : Int32 × Mem) => (x.1, (ovH x.2 ρ))) (Sum.map (fun (x : Int32 × Mem) => (x.1, (ovH x.2 ρ))) (fun (x : Mem) => (ovH x ρ)))) := by
  simp only [kP_firstSuite_s2, bindF, mapF, mapI, mapE, Option.map_some, Option.map_none, Sum.map_inl, Sum.map_inr, elimF, mapS, mIc, mLc, mRc, mVc, sIc, sLc, sRc, fIc, Nat.reduceLT, fr_kH_roomAt, fr_kG_spotCode, fr_kV_take]
theorem fl_kP_firstSuite_s2 {ρ : Mem}  (z0 : Int32) (σ : Mem) : loopF FU (kP_firstSuite_s2 ) (z0, ovH σ ρ) = (loopF FU (kP_firstSuite_s2 ) (z0, σ)).map (Sum.map (fun (x : Int32 × Mem) => (x.1, (ovH x.2 ρ))) (fun (x : Mem) => (ovH x ρ))) :=
  loopM (a := (fun (x : Int32 × Mem) => (x.1, (ovH x.2 ρ)))) (b := (Sum.map (fun (x : Int32 × Mem) => (x.1, (ovH x.2 ρ))) (fun (x : Mem) => (ovH x ρ)))) (fun s => fr_kP_firstSuite_s2  s.1 s.2) FU (z0, σ)
theorem fr_kP_firstSuite_x48 {ρ : Mem} (σ : Mem) (x3 : Int32) : kP_firstSuite_x48 (ovH σ ρ) x3 = (kP_firstSuite_x48 σ x3).map (fun (x : Int32 × Mem) => (x.1, (ovH x.2 ρ))) := by
  simp only [kP_firstSuite_x48, bindF, mapF, mapI, mapE, Option.map_some, Option.map_none, Sum.map_inl, Sum.map_inr, elimF, mapS, mIc, mLc, mRc, mVc, sIc, sLc, sRc, fIc, Nat.reduceLT]
theorem fr_kP_firstSuite_x56 {ρ : Mem} (σ : Mem)  : kP_firstSuite_x56 (ovH σ ρ) = (kP_firstSuite_x56 σ).map (fun (x : Int32 × Mem) => (x.1, (ovH x.2 ρ))) := by
  simp only [kP_firstSuite_x56, bindF, mapF, mapI, mapE, Option.map_some, Option.map_none, Sum.map_inl, Sum.map_inr, elimF, mapS, mIc, mLc, mRc, mVc, sIc, sLc, sRc, fIc, Nat.reduceLT]
theorem fr_kP_firstSuite {ρ : Mem} (σ : Mem)  : kP_firstSuite (ovH σ ρ) = (kP_firstSuite σ).map (fun (x : Int32 × Mem) => (x.1, (ovH x.2 ρ))) := by
  simp only [kP_firstSuite, bindF, mapF, mapI, mapE, Option.map_some, Option.map_none, Sum.map_inl, Sum.map_inr, elimF, mapS, mIc, mLc, mRc, mVc, sIc, sLc, sRc, fIc, Nat.reduceLT, fl_kP_firstSuite_s2, fr_kP_firstSuite_x48, fr_kP_firstSuite_x56]
theorem fr_kP_makeNight_j159 {ρ : Mem} (σ : Mem) (x1 : Int32) (x2 : Int32) (y0 : Int32) (y1 : Int32) (y2 : Option Nat) : kP_makeNight_j159 (ovH σ ρ) x1 x2 y0 y1 y2 = (kP_makeNight_j159 σ x1 x2 y0 y1 y2).map (Sum.map (fun (x : Int32 × Mem) => (x.1, (ovH x.2 ρ))) (fun (x : Mem) => (ovH x ρ))) := by
  simp only [kP_makeNight_j159, bindF, mapF, mapI, mapE, Option.map_some, Option.map_none, Sum.map_inl, Sum.map_inr, elimF, mapS, mIc, mLc, mRc, mVc, sIc, sLc, sRc, fIc, Nat.reduceLT, fr_kQ_setSpot]
theorem fr_kP_firstUnit_s42 {ρ : Mem} (x1 : Int32) (x2 : Int32) (x4 : Int32) (z0 : Int32) (σ : Mem) : kP_firstUnit_s42 x1 x2 x4 (z0, ovH σ ρ) = (kP_firstUnit_s42 x1 x2 x4 (z0, σ)).map (Sum.map (fun (x : Int32 × Mem) => (x.1, (ovH x.2 ρ))) (Sum.map (fun (x : Int32 × Mem) => (x.1, (ovH x.2 ρ))) (fun (x : Mem) => (ovH x ρ)))) := by
  simp only [kP_firstUnit_s42, bindF, mapF, mapI, mapE, Option.map_some, Option.map_none, Sum.map_inl, Sum.map_inr, elimF, mapS, mIc, mLc, mRc, mVc, sIc, sLc, sRc, fIc, Nat.reduceLT, fr_kG_spotCode, fr_kV_take]
theorem fl_kP_firstUnit_s42 {ρ : Mem} (x1 : Int32) (x2 : Int32) (x4 : Int32) (z0 : Int32) (σ : Mem) : loopF FU (kP_firstUnit_s42 x1 x2 x4) (z0, ovH σ ρ) = (loopF FU (kP_firstUnit_s42 x1 x2 x4) (z0, σ)).map (Sum.map (fun (x : Int32 × Mem) => (x.1, (ovH x.2 ρ))) (fun (x : Mem) => (ovH x ρ))) :=
  loopM (a := (fun (x : Int32 × Mem) => (x.1, (ovH x.2 ρ)))) (b := (Sum.map (fun (x : Int32 × Mem) => (x.1, (ovH x.2 ρ))) (fun (x : Mem) => (ovH x ρ)))) (fun s => fr_kP_firstUnit_s42 x1 x2 x4 s.1 s.2) FU (z0, σ)
theorem fr_kP_firstUnit_x80 {ρ : Mem} (σ : Mem) (x1 : Int32) (x2 : Int32) : kP_firstUnit_x80 (ovH σ ρ) x1 x2 = (kP_firstUnit_x80 σ x1 x2).map (Sum.map (fun (x : Int32 × Mem) => (x.1, (ovH x.2 ρ))) (Sum.map (fun (x : Int32 × Mem) => (x.1, (ovH x.2 ρ))) (fun (x : Mem) => (ovH x ρ)))) := by
  simp only [kP_firstUnit_x80, bindF, mapF, mapI, mapE, Option.map_some, Option.map_none, Sum.map_inl, Sum.map_inr, elimF, mapS, mIc, mLc, mRc, mVc, sIc, sLc, sRc, fIc, Nat.reduceLT]
theorem fr_kP_firstUnit_j37 {ρ : Mem} (σ : Mem) (x1 : Int32) (x2 : Int32) (y0 : Int32) : kP_firstUnit_j37 (ovH σ ρ) x1 x2 y0 = (kP_firstUnit_j37 σ x1 x2 y0).map (Sum.map (fun (x : Int32 × Mem) => (x.1, (ovH x.2 ρ))) (Sum.map (fun (x : Int32 × Mem) => (x.1, (ovH x.2 ρ))) (fun (x : Mem) => (ovH x ρ)))) := by
  simp only [kP_firstUnit_j37, bindF, mapF, mapI, mapE, Option.map_some, Option.map_none, Sum.map_inl, Sum.map_inr, elimF, mapS, mIc, mLc, mRc, mVc, sIc, sLc, sRc, fIc, Nat.reduceLT, fl_kP_firstUnit_s42, fr_kP_firstUnit_x80]
theorem fr_kP_firstUnit_j36 {ρ : Mem} (σ : Mem) (x1 : Int32) (x2 : Int32) : kP_firstUnit_j36 (ovH σ ρ) x1 x2 = (kP_firstUnit_j36 σ x1 x2).map (Sum.map (fun (x : Int32 × Mem) => (x.1, (ovH x.2 ρ))) (Sum.map (fun (x : Int32 × Mem) => (x.1, (ovH x.2 ρ))) (fun (x : Mem) => (ovH x ρ)))) := by
  simp only [kP_firstUnit_j36, bindF, mapF, mapI, mapE, Option.map_some, Option.map_none, Sum.map_inl, Sum.map_inr, elimF, mapS, mIc, mLc, mRc, mVc, sIc, sLc, sRc, fIc, Nat.reduceLT, fr_kP_firstUnit_j37]
theorem fr_kR_suits {ρ : Mem} (σ : Mem) (x0 : Nat) (x1 : Int32) : kR_suits (ovH σ ρ) x0 x1 = (kR_suits σ x0 x1).map (fun (x : Int32 × Mem) => (x.1, (ovH x.2 ρ))) := by
  simp only [kR_suits, bindF, mapF, mapI, mapE, Option.map_some, Option.map_none, Sum.map_inl, Sum.map_inr, elimF, mapS, mIc, mLc, mRc, mVc, sIc, sLc, sRc, fIc, Nat.reduceLT]
theorem fr_kP_firstUnit_s2 {ρ : Mem} (x1 : Int32) (z0 : Int32) (σ : Mem) : kP_firstUnit_s2 x1 (z0, ovH σ ρ) = (kP_firstUnit_s2 x1 (z0, σ)).map (Sum.map (fun (x : Int32 × Mem) => (x.1, (ovH x.2 ρ))) (Sum.map (fun (x : Int32 × Mem) => (x.1, (ovH x.2 ρ))) (fun (x : Mem) => (ovH x ρ)))) := by
  simp only [kP_firstUnit_s2, bindF, mapF, mapI, mapE, Option.map_some, Option.map_none, Sum.map_inl, Sum.map_inr, elimF, mapS, mIc, mLc, mRc, mVc, sIc, sLc, sRc, fIc, Nat.reduceLT, fr_kH_roomAt, fr_kP_firstUnit_j36, fr_kR_suits, fr_kR_units, fr_kP_firstUnit_j37]
theorem fl_kP_firstUnit_s2 {ρ : Mem} (x1 : Int32) (z0 : Int32) (σ : Mem) : loopF FU (kP_firstUnit_s2 x1) (z0, ovH σ ρ) = (loopF FU (kP_firstUnit_s2 x1) (z0, σ)).map (Sum.map (fun (x : Int32 × Mem) => (x.1, (ovH x.2 ρ))) (fun (x : Mem) => (ovH x ρ))) :=
  loopM (a := (fun (x : Int32 × Mem) => (x.1, (ovH x.2 ρ)))) (b := (Sum.map (fun (x : Int32 × Mem) => (x.1, (ovH x.2 ρ))) (fun (x : Mem) => (ovH x ρ)))) (fun s => fr_kP_firstUnit_s2 x1 s.1 s.2) FU (z0, σ)
theorem fr_kP_firstUnit_x71 {ρ : Mem} (σ : Mem) (x6 : Int32) : kP_firstUnit_x71 (ovH σ ρ) x6 = (kP_firstUnit_x71 σ x6).map (fun (x : Int32 × Mem) => (x.1, (ovH x.2 ρ))) := by
  simp only [kP_firstUnit_x71, bindF, mapF, mapI, mapE, Option.map_some, Option.map_none, Sum.map_inl, Sum.map_inr, elimF, mapS, mIc, mLc, mRc, mVc, sIc, sLc, sRc, fIc, Nat.reduceLT]
theorem fr_kP_firstUnit_x86 {ρ : Mem} (σ : Mem)  : kP_firstUnit_x86 (ovH σ ρ) = (kP_firstUnit_x86 σ).map (fun (x : Int32 × Mem) => (x.1, (ovH x.2 ρ))) := by
  simp only [kP_firstUnit_x86, bindF, mapF, mapI, mapE, Option.map_some, Option.map_none, Sum.map_inl, Sum.map_inr, elimF, mapS, mIc, mLc, mRc, mVc, sIc, sLc, sRc, fIc, Nat.reduceLT]
theorem fr_kP_firstUnit {ρ : Mem} (σ : Mem) (x1 : Int32) : kP_firstUnit (ovH σ ρ) x1 = (kP_firstUnit σ x1).map (fun (x : Int32 × Mem) => (x.1, (ovH x.2 ρ))) := by
  simp only [kP_firstUnit, bindF, mapF, mapI, mapE, Option.map_some, Option.map_none, Sum.map_inl, Sum.map_inr, elimF, mapS, mIc, mLc, mRc, mVc, sIc, sLc, sRc, fIc, Nat.reduceLT, fl_kP_firstUnit_s2, fr_kP_firstUnit_x71, fr_kP_firstUnit_x86]
theorem fr_kP_makeNight_s91 {ρ : Mem} (x1 : Int32) (z0 : Int32) (σ : Mem) : kP_makeNight_s91 x1 (z0, ovH σ ρ) = (kP_makeNight_s91 x1 (z0, σ)).map (Sum.map (fun (x : Int32 × Mem) => (x.1, (ovH x.2 ρ))) (fun (x : Mem) => (ovH x ρ))) := by
  simp only [kP_makeNight_s91, bindF, mapF, mapI, mapE, Option.map_some, Option.map_none, Sum.map_inl, Sum.map_inr, elimF, mapS, mIc, mLc, mRc, mVc, sIc, sLc, sRc, fIc, Nat.reduceLT, fr_kQ_spotIn, fr_kP_firstSuite, fr_kP_makeNight_j159, fr_kP_firstUnit]
theorem fl_kP_makeNight_s91 {ρ : Mem} (x1 : Int32) (z0 : Int32) (σ : Mem) : loopF FU (kP_makeNight_s91 x1) (z0, ovH σ ρ) = (loopF FU (kP_makeNight_s91 x1) (z0, σ)).map (fun (x : Mem) => (ovH x ρ)) :=
  loopM (a := (fun (x : Int32 × Mem) => (x.1, (ovH x.2 ρ)))) (b := (fun (x : Mem) => (ovH x ρ))) (fun s => fr_kP_makeNight_s91 x1 s.1 s.2) FU (z0, σ)
theorem fr_kP_makeNight_x168 {ρ : Mem} (σ : Mem)  : kP_makeNight_x168 (ovH σ ρ) = (kP_makeNight_x168 σ).map (fun (x : Unit × Mem) => (x.1, (ovH x.2 ρ))) := by
  simp only [kP_makeNight_x168, bindF, mapF, mapI, mapE, Option.map_some, Option.map_none, Sum.map_inl, Sum.map_inr, elimF, mapS, mIc, mLc, mRc, mVc, sIc, sLc, sRc, fIc, Nat.reduceLT]
theorem fr_kP_makeNight_x89 {ρ : Mem} (σ : Mem) (x1 : Int32) : kP_makeNight_x89 (ovH σ ρ) x1 = (kP_makeNight_x89 σ x1).map (fun (x : Unit × Mem) => (x.1, (ovH x.2 ρ))) := by
  simp only [kP_makeNight_x89, bindF, mapF, mapI, mapE, Option.map_some, Option.map_none, Sum.map_inl, Sum.map_inr, elimF, mapS, mIc, mLc, mRc, mVc, sIc, sLc, sRc, fIc, Nat.reduceLT, fl_kP_makeNight_s91, fr_kP_makeNight_x168]
theorem fr_kP_makeNight {ρ : Mem} (σ : Mem) (x1 : Int32) : kP_makeNight (ovH σ ρ) x1 = (kP_makeNight σ x1).map (fun (x : Unit × Mem) => (x.1, (ovH x.2 ρ))) := by
  simp only [kP_makeNight, bindF, mapF, mapI, mapE, Option.map_some, Option.map_none, Sum.map_inl, Sum.map_inr, elimF, mapS, mIc, mLc, mRc, mVc, sIc, sLc, sRc, fIc, Nat.reduceLT, fr_kP_gather, fr_kV_begin, fr_kP_keepThose, fl_kP_makeNight_s38, fr_kP_makeNight_x89]
theorem fr_kG_planUpTo_s5 {ρ : Mem} (x1 : Int32) (z0 : Int32) (σ : Mem) : kG_planUpTo_s5 x1 (z0, ovH σ ρ) = (kG_planUpTo_s5 x1 (z0, σ)).map (Sum.map (fun (x : Int32 × Mem) => (x.1, (ovH x.2 ρ))) (fun (x : Mem) => (ovH x ρ))) := by
  simp only [kG_planUpTo_s5, bindF, mapF, mapI, mapE, Option.map_some, Option.map_none, Sum.map_inl, Sum.map_inr, elimF, mapS, mIc, mLc, mRc, mVc, sIc, sLc, sRc, fIc, Nat.reduceLT, fr_kP_makeNight]
theorem fl_kG_planUpTo_s5 {ρ : Mem} (x1 : Int32) (z0 : Int32) (σ : Mem) : loopF FU (kG_planUpTo_s5 x1) (z0, ovH σ ρ) = (loopF FU (kG_planUpTo_s5 x1) (z0, σ)).map (fun (x : Mem) => (ovH x ρ)) :=
  loopM (a := (fun (x : Int32 × Mem) => (x.1, (ovH x.2 ρ)))) (b := (fun (x : Mem) => (ovH x ρ))) (fun s => fr_kG_planUpTo_s5 x1 s.1 s.2) FU (z0, σ)
theorem fr_kG_planUpTo_x37 {ρ : Mem} (σ : Mem)  : kG_planUpTo_x37 (ovH σ ρ) = (kG_planUpTo_x37 σ).map (fun (x : Unit × Mem) => (x.1, (ovH x.2 ρ))) := by
  simp only [kG_planUpTo_x37, bindF, mapF, mapI, mapE, Option.map_some, Option.map_none, Sum.map_inl, Sum.map_inr, elimF, mapS, mIc, mLc, mRc, mVc, sIc, sLc, sRc, fIc, Nat.reduceLT]
theorem fr_kG_planUpTo {ρ : Mem} (σ : Mem) (x1 : Int32) : kG_planUpTo (ovH σ ρ) x1 = (kG_planUpTo σ x1).map (fun (x : Unit × Mem) => (x.1, (ovH x.2 ρ))) := by
  simp only [kG_planUpTo, bindF, mapF, mapI, mapE, Option.map_some, Option.map_none, Sum.map_inl, Sum.map_inr, elimF, mapS, mIc, mLc, mRc, mVc, sIc, sLc, sRc, fIc, Nat.reduceLT, fl_kG_planUpTo_s5, fr_kG_planUpTo_x37]
theorem fr_kM_plan_s2 {ρ : Mem} (x1 : Int32) (z0 : Int32) (σ : Mem) : kM_plan_s2 x1 (z0, ovH ρ σ) = (kM_plan_s2 x1 (z0, σ)).map (Sum.map (fun (x : Int32 × Mem) => (x.1, (ovH ρ x.2))) (fun (x : Mem) => (ovH ρ x))) := by
  simp only [kM_plan_s2, bindF, mapF, mapI, mapE, Option.map_some, Option.map_none, Sum.map_inl, Sum.map_inr, elimF, mapS, mIm, mLm, mRm, mVm, sIm, sLm, sRm, Nat.reduceLeDiff]
theorem fl_kM_plan_s2 {ρ : Mem} (x1 : Int32) (z0 : Int32) (σ : Mem) : loopF FU (kM_plan_s2 x1) (z0, ovH ρ σ) = (loopF FU (kM_plan_s2 x1) (z0, σ)).map (fun (x : Mem) => (ovH ρ x)) :=
  loopM (a := (fun (x : Int32 × Mem) => (x.1, (ovH ρ x.2)))) (b := (fun (x : Mem) => (ovH ρ x))) (fun s => fr_kM_plan_s2 x1 s.1 s.2) FU (z0, σ)
theorem fr_kM_plan_s44 {ρ : Mem} (x1 : Int32) (z0 : Int32) (σ : Mem) : kM_plan_s44 x1 (z0, ovH ρ σ) = (kM_plan_s44 x1 (z0, σ)).map (Sum.map (fun (x : Int32 × Mem) => (x.1, (ovH ρ x.2))) (fun (x : Mem) => (ovH ρ x))) := by
  simp only [kM_plan_s44, bindF, mapF, mapI, mapE, Option.map_some, Option.map_none, Sum.map_inl, Sum.map_inr, elimF, mapS, mIm, mLm, mRm, mVm, sIm, sLm, sRm, Nat.reduceLeDiff]
theorem fl_kM_plan_s44 {ρ : Mem} (x1 : Int32) (z0 : Int32) (σ : Mem) : loopF FU (kM_plan_s44 x1) (z0, ovH ρ σ) = (loopF FU (kM_plan_s44 x1) (z0, σ)).map (fun (x : Mem) => (ovH ρ x)) :=
  loopM (a := (fun (x : Int32 × Mem) => (x.1, (ovH ρ x.2)))) (b := (fun (x : Mem) => (ovH ρ x))) (fun s => fr_kM_plan_s44 x1 s.1 s.2) FU (z0, σ)
theorem fr_kM_fresh_s7 {ρ : Mem}  (z0 : Int32) (σ : Mem) : kM_fresh_s7  (z0, ovH ρ σ) = (kM_fresh_s7  (z0, σ)).map (Sum.map (fun (x : Int32 × Mem) => (x.1, (ovH ρ x.2))) (fun (x : Mem) => (ovH ρ x))) := by
  simp only [kM_fresh_s7, bindF, mapF, mapI, mapE, Option.map_some, Option.map_none, Sum.map_inl, Sum.map_inr, elimF, mapS, mIm, mLm, mRm, mVm, sIm, sLm, sRm, Nat.reduceLeDiff]
theorem fl_kM_fresh_s7 {ρ : Mem}  (z0 : Int32) (σ : Mem) : loopF FU (kM_fresh_s7 ) (z0, ovH ρ σ) = (loopF FU (kM_fresh_s7 ) (z0, σ)).map (fun (x : Mem) => (ovH ρ x)) :=
  loopM (a := (fun (x : Int32 × Mem) => (x.1, (ovH ρ x.2)))) (b := (fun (x : Mem) => (ovH ρ x))) (fun s => fr_kM_fresh_s7  s.1 s.2) FU (z0, σ)
theorem fr_kM_fresh_x26 {ρ : Mem} (σ : Mem)  : kM_fresh_x26 (ovH ρ σ) = (kM_fresh_x26 σ).map (fun (x : Unit × Mem) => (x.1, (ovH ρ x.2))) := by
  simp only [kM_fresh_x26, bindF, mapF, mapI, mapE, Option.map_some, Option.map_none, Sum.map_inl, Sum.map_inr, elimF, mapS, mIm, mLm, mRm, mVm, sIm, sLm, sRm, Nat.reduceLeDiff]
theorem fr_kM_fresh {ρ : Mem} (σ : Mem) (x1 : Int32) : kM_fresh (ovH ρ σ) x1 = (kM_fresh σ x1).map (fun (x : Unit × Mem) => (x.1, (ovH ρ x.2))) := by
  simp only [kM_fresh, bindF, mapF, mapI, mapE, Option.map_some, Option.map_none, Sum.map_inl, Sum.map_inr, elimF, mapS, mIm, mLm, mRm, mVm, sIm, sLm, sRm, Nat.reduceLeDiff, fl_kM_fresh_s7, fr_kM_fresh_x26]
theorem fr_kM_stands {ρ : Mem} (σ : Mem) (x1 : Int32) : kM_stands (ovH ρ σ) x1 = (kM_stands σ x1).map (fun (x : Int32 × Mem) => (x.1, (ovH ρ x.2))) := by
  simp only [kM_stands, bindF, mapF, mapI, mapE, Option.map_some, Option.map_none, Sum.map_inl, Sum.map_inr, elimF, mapS, mIm, mLm, mRm, mVm, sIm, sLm, sRm, Nat.reduceLeDiff]
theorem fr_kM_wants {ρ : Mem} (σ : Mem) (x1 : Int32) (x2 : Int32) : kM_wants (ovH ρ σ) x1 x2 = (kM_wants σ x1 x2).map (fun (x : Int32 × Mem) => (x.1, (ovH ρ x.2))) := by
  simp only [kM_wants, bindF, mapF, mapI, mapE, Option.map_some, Option.map_none, Sum.map_inl, Sum.map_inr, elimF, mapS, mIm, mLm, mRm, mVm, sIm, sLm, sRm, Nat.reduceLeDiff, fr_kM_stands]
theorem fr_kM_canAll_s4 {ρ : Mem}  (z0 : Int32) (z1 : Int32) (σ : Mem) : kM_canAll_s4  (z0, z1, ovH ρ σ) = (kM_canAll_s4  (z0, z1, σ)).map (Sum.map (fun (x : Int32 × Int32 × Mem) => (x.1, x.2.1, (ovH ρ x.2.2))) (fun (x : Int32 × Mem) => (x.1, (ovH ρ x.2)))) := by
  simp only [kM_canAll_s4, bindF, mapF, mapI, mapE, Option.map_some, Option.map_none, Sum.map_inl, Sum.map_inr, elimF, mapS, mIm, mLm, mRm, mVm, sIm, sLm, sRm, Nat.reduceLeDiff]
theorem fl_kM_canAll_s4 {ρ : Mem}  (z0 : Int32) (z1 : Int32) (σ : Mem) : loopF FU (kM_canAll_s4 ) (z0, z1, ovH ρ σ) = (loopF FU (kM_canAll_s4 ) (z0, z1, σ)).map (fun (x : Int32 × Mem) => (x.1, (ovH ρ x.2))) :=
  loopM (a := (fun (x : Int32 × Int32 × Mem) => (x.1, x.2.1, (ovH ρ x.2.2)))) (b := (fun (x : Int32 × Mem) => (x.1, (ovH ρ x.2)))) (fun s => fr_kM_canAll_s4  s.1 s.2.1 s.2.2) FU (z0, z1, σ)
theorem fr_kM_isPlace {ρ : Mem} (σ : Mem) (x0 : Int32) : kM_isPlace (ovH ρ σ) x0 = (kM_isPlace σ x0).map (fun (x : Int32 × Mem) => (x.1, (ovH ρ x.2))) := by
  simp only [kM_isPlace, bindF, mapF, mapI, mapE, Option.map_some, Option.map_none, Sum.map_inl, Sum.map_inr, elimF, mapS, mIm, mLm, mRm, mVm, sIm, sLm, sRm, Nat.reduceLeDiff]
theorem fr_kM_isRoom {ρ : Mem} (σ : Mem) (x1 : Int32) : kM_isRoom (ovH ρ σ) x1 = (kM_isRoom σ x1).map (fun (x : Int32 × Mem) => (x.1, (ovH ρ x.2))) := by
  simp only [kM_isRoom, bindF, mapF, mapI, mapE, Option.map_some, Option.map_none, Sum.map_inl, Sum.map_inr, elimF, mapS, mIm, mLm, mRm, mVm, sIm, sLm, sRm, Nat.reduceLeDiff, fr_kM_isPlace]
theorem fr_kM_isOpen {ρ : Mem} (σ : Mem) (x1 : Int32) (x2 : Int32) : kM_isOpen (ovH ρ σ) x1 x2 = (kM_isOpen σ x1 x2).map (fun (x : Int32 × Mem) => (x.1, (ovH ρ x.2))) := by
  simp only [kM_isOpen, bindF, mapF, mapI, mapE, Option.map_some, Option.map_none, Sum.map_inl, Sum.map_inr, elimF, mapS, mIm, mLm, mRm, mVm, sIm, sLm, sRm, Nat.reduceLeDiff]
theorem fr_kM_poured_s62 {ρ : Mem} (x1 : Int32) (x3 : Int32) (x4 : Int32) (x5 : Int32) (x6 : Int32) (x7 : Int32) (z0 : Int32) (z1 : Int32) (σ : Mem) : kM_poured_s62 x1 x3 x4 x5 x6 x7 (z0, z1, ovH ρ σ) = (kM_poured_s62 x1 x3 x4 x5 x6 x7 (z0, z1, σ)).map (Sum.map (fun (x : Int32 × Int32 × Mem) => (x.1, x.2.1, (ovH ρ x.2.2))) (fun (x : Int32 × Mem) => (x.1, (ovH ρ x.2)))) := by
  simp only [kM_poured_s62, bindF, mapF, mapI, mapE, Option.map_some, Option.map_none, Sum.map_inl, Sum.map_inr, elimF, mapS, mIm, mLm, mRm, mVm, sIm, sLm, sRm, Nat.reduceLeDiff]
theorem fl_kM_poured_s62 {ρ : Mem} (x1 : Int32) (x3 : Int32) (x4 : Int32) (x5 : Int32) (x6 : Int32) (x7 : Int32) (z0 : Int32) (z1 : Int32) (σ : Mem) : loopF FU (kM_poured_s62 x1 x3 x4 x5 x6 x7) (z0, z1, ovH ρ σ) = (loopF FU (kM_poured_s62 x1 x3 x4 x5 x6 x7) (z0, z1, σ)).map (fun (x : Int32 × Mem) => (x.1, (ovH ρ x.2))) :=
  loopM (a := (fun (x : Int32 × Int32 × Mem) => (x.1, x.2.1, (ovH ρ x.2.2)))) (b := (fun (x : Int32 × Mem) => (x.1, (ovH ρ x.2)))) (fun s => fr_kM_poured_s62 x1 x3 x4 x5 x6 x7 s.1 s.2.1 s.2.2) FU (z0, z1, σ)
theorem fr_kM_poured_x98 {ρ : Mem} (σ : Mem) (x1 : Int32) (x2 : Int32) (x3 : Int32) (x4 : Int32) (x5 : Int32) (x6 : Int32) (x7 : Int32) : kM_poured_x98 (ovH ρ σ) x1 x2 x3 x4 x5 x6 x7 = (kM_poured_x98 σ x1 x2 x3 x4 x5 x6 x7).map (Sum.map (fun (x : Int32 × Int32 × Int32 × Int32 × Int32 × Int32 × Mem) => (x.1, x.2.1, x.2.2.1, x.2.2.2.1, x.2.2.2.2.1, x.2.2.2.2.2.1, (ovH ρ x.2.2.2.2.2.2))) (fun (x : Int32 × Int32 × Int32 × Int32 × Int32 × Mem) => (x.1, x.2.1, x.2.2.1, x.2.2.2.1, x.2.2.2.2.1, (ovH ρ x.2.2.2.2.2)))) := by
  simp only [kM_poured_x98, bindF, mapF, mapI, mapE, Option.map_some, Option.map_none, Sum.map_inl, Sum.map_inr, elimF, mapS, mIm, mLm, mRm, mVm, sIm, sLm, sRm, Nat.reduceLeDiff]
theorem fr_kM_isFree {ρ : Mem} (σ : Mem) (x1 : Int32) : kM_isFree (ovH ρ σ) x1 = (kM_isFree σ x1).map (fun (x : Int32 × Mem) => (x.1, (ovH ρ x.2))) := by
  simp only [kM_isFree, bindF, mapF, mapI, mapE, Option.map_some, Option.map_none, Sum.map_inl, Sum.map_inr, elimF, mapS, mIm, mLm, mRm, mVm, sIm, sLm, sRm, Nat.reduceLeDiff, fr_kM_isOpen]
theorem fr_kM_poured_j147 {ρ : Mem} (σ : Mem) (x1 : Int32) (x2 : Int32) (x3 : Int32) (x4 : Int32) (x5 : Int32) (x6 : Int32) (x7 : Int32) : kM_poured_j147 (ovH ρ σ) x1 x2 x3 x4 x5 x6 x7 = (kM_poured_j147 σ x1 x2 x3 x4 x5 x6 x7).map (Sum.map (fun (x : Int32 × Int32 × Int32 × Int32 × Int32 × Int32 × Mem) => (x.1, x.2.1, x.2.2.1, x.2.2.2.1, x.2.2.2.2.1, x.2.2.2.2.2.1, (ovH ρ x.2.2.2.2.2.2))) (fun (x : Int32 × Int32 × Int32 × Int32 × Int32 × Mem) => (x.1, x.2.1, x.2.2.1, x.2.2.2.1, x.2.2.2.2.1, (ovH ρ x.2.2.2.2.2)))) := by
  simp only [kM_poured_j147, bindF, mapF, mapI, mapE, Option.map_some, Option.map_none, Sum.map_inl, Sum.map_inr, elimF, mapS, mIm, mLm, mRm, mVm, sIm, sLm, sRm, Nat.reduceLeDiff, fr_kM_isFree]
theorem fr_kM_poured_s16 {ρ : Mem} (x1 : Int32) (z0 : Int32) (z1 : Int32) (z2 : Int32) (z3 : Int32) (z4 : Int32) (z5 : Int32) (σ : Mem) : kM_poured_s16 x1 (z0, z1, z2, z3, z4, z5, ovH ρ σ) = (kM_poured_s16 x1 (z0, z1, z2, z3, z4, z5, σ)).map (Sum.map (fun (x : Int32 × Int32 × Int32 × Int32 × Int32 × Int32 × Mem) => (x.1, x.2.1, x.2.2.1, x.2.2.2.1, x.2.2.2.2.1, x.2.2.2.2.2.1, (ovH ρ x.2.2.2.2.2.2))) (fun (x : Int32 × Int32 × Int32 × Int32 × Int32 × Mem) => (x.1, x.2.1, x.2.2.1, x.2.2.2.1, x.2.2.2.2.1, (ovH ρ x.2.2.2.2.2)))) := by
  simp only [kM_poured_s16, bindF, mapF, mapI, mapE, Option.map_some, Option.map_none, Sum.map_inl, Sum.map_inr, elimF, mapS, mIm, mLm, mRm, mVm, sIm, sLm, sRm, Nat.reduceLeDiff, fr_kM_isRoom, fr_kM_isOpen, fl_kM_poured_s62, fr_kM_poured_x98, fr_kM_poured_j147]
theorem fl_kM_poured_s16 {ρ : Mem} (x1 : Int32) (z0 : Int32) (z1 : Int32) (z2 : Int32) (z3 : Int32) (z4 : Int32) (z5 : Int32) (σ : Mem) : loopF FU (kM_poured_s16 x1) (z0, z1, z2, z3, z4, z5, ovH ρ σ) = (loopF FU (kM_poured_s16 x1) (z0, z1, z2, z3, z4, z5, σ)).map (fun (x : Int32 × Int32 × Int32 × Int32 × Int32 × Mem) => (x.1, x.2.1, x.2.2.1, x.2.2.2.1, x.2.2.2.2.1, (ovH ρ x.2.2.2.2.2))) :=
  loopM (a := (fun (x : Int32 × Int32 × Int32 × Int32 × Int32 × Int32 × Mem) => (x.1, x.2.1, x.2.2.1, x.2.2.2.1, x.2.2.2.2.1, x.2.2.2.2.2.1, (ovH ρ x.2.2.2.2.2.2)))) (b := (fun (x : Int32 × Int32 × Int32 × Int32 × Int32 × Mem) => (x.1, x.2.1, x.2.2.1, x.2.2.2.1, x.2.2.2.2.1, (ovH ρ x.2.2.2.2.2)))) (fun s => fr_kM_poured_s16 x1 s.1 s.2.1 s.2.2.1 s.2.2.2.1 s.2.2.2.2.1 s.2.2.2.2.2.1 s.2.2.2.2.2.2) FU (z0, z1, z2, z3, z4, z5, σ)
theorem fr_kM_less {ρ : Mem} (σ : Mem) (x0 : Int32) (x1 : Int32) : kM_less (ovH ρ σ) x0 x1 = (kM_less σ x0 x1).map (fun (x : Int32 × Mem) => (x.1, (ovH ρ x.2))) := by
  simp only [kM_less, bindF, mapF, mapI, mapE, Option.map_some, Option.map_none, Sum.map_inl, Sum.map_inr, elimF, mapS, mIm, mLm, mRm, mVm, sIm, sLm, sRm, Nat.reduceLeDiff]
theorem fr_kM_poured_x193 {ρ : Mem} (σ : Mem) (x1 : Int32) (x2 : Int32) (x3 : Int32) (x4 : Int32) (x5 : Int32) (x6 : Int32) : kM_poured_x193 (ovH ρ σ) x1 x2 x3 x4 x5 x6 = (kM_poured_x193 σ x1 x2 x3 x4 x5 x6).map (fun (x : Int32 × Mem) => (x.1, (ovH ρ x.2))) := by
  simp only [kM_poured_x193, bindF, mapF, mapI, mapE, Option.map_some, Option.map_none, Sum.map_inl, Sum.map_inr, elimF, mapS, mIm, mLm, mRm, mVm, sIm, sLm, sRm, Nat.reduceLeDiff, fr_kM_less]
theorem fr_kM_poured {ρ : Mem} (σ : Mem) (x1 : Int32) : kM_poured (ovH ρ σ) x1 = (kM_poured σ x1).map (fun (x : Int32 × Mem) => (x.1, (ovH ρ x.2))) := by
  simp only [kM_poured, bindF, mapF, mapI, mapE, Option.map_some, Option.map_none, Sum.map_inl, Sum.map_inr, elimF, mapS, mIm, mLm, mRm, mVm, sIm, sLm, sRm, Nat.reduceLeDiff, fl_kM_poured_s16, fr_kM_poured_x193]
theorem fr_kM_canAll_x36 {ρ : Mem} (σ : Mem) (x1 : Int32) : kM_canAll_x36 (ovH ρ σ) x1 = (kM_canAll_x36 σ x1).map (fun (x : Int32 × Mem) => (x.1, (ovH ρ x.2))) := by
  simp only [kM_canAll_x36, bindF, mapF, mapI, mapE, Option.map_some, Option.map_none, Sum.map_inl, Sum.map_inr, elimF, mapS, mIm, mLm, mRm, mVm, sIm, sLm, sRm, Nat.reduceLeDiff, fr_kM_poured]
theorem fr_kM_canAll {ρ : Mem} (σ : Mem)  : kM_canAll (ovH ρ σ) = (kM_canAll σ).map (fun (x : Int32 × Mem) => (x.1, (ovH ρ x.2))) := by
  simp only [kM_canAll, bindF, mapF, mapI, mapE, Option.map_some, Option.map_none, Sum.map_inl, Sum.map_inr, elimF, mapS, mIm, mLm, mRm, mVm, sIm, sLm, sRm, Nat.reduceLeDiff, fl_kM_canAll_s4, fr_kM_canAll_x36]
theorem fr_kM_keep_s2 {ρ : Mem} (x1 : Int32) (x2 : Int32) (z0 : Int32) (σ : Mem) : kM_keep_s2 x1 x2 (z0, ovH ρ σ) = (kM_keep_s2 x1 x2 (z0, σ)).map (Sum.map (fun (x : Int32 × Mem) => (x.1, (ovH ρ x.2))) (fun (x : Mem) => (ovH ρ x))) := by
  simp only [kM_keep_s2, bindF, mapF, mapI, mapE, Option.map_some, Option.map_none, Sum.map_inl, Sum.map_inr, elimF, mapS, mIm, mLm, mRm, mVm, sIm, sLm, sRm, Nat.reduceLeDiff, fr_kM_wants, fr_kM_canAll]
theorem fl_kM_keep_s2 {ρ : Mem} (x1 : Int32) (x2 : Int32) (z0 : Int32) (σ : Mem) : loopF FU (kM_keep_s2 x1 x2) (z0, ovH ρ σ) = (loopF FU (kM_keep_s2 x1 x2) (z0, σ)).map (fun (x : Mem) => (ovH ρ x)) :=
  loopM (a := (fun (x : Int32 × Mem) => (x.1, (ovH ρ x.2)))) (b := (fun (x : Mem) => (ovH ρ x))) (fun s => fr_kM_keep_s2 x1 x2 s.1 s.2) FU (z0, σ)
theorem fr_kM_keep_x87 {ρ : Mem} (σ : Mem)  : kM_keep_x87 (ovH ρ σ) = (kM_keep_x87 σ).map (fun (x : Unit × Mem) => (x.1, (ovH ρ x.2))) := by
  simp only [kM_keep_x87, bindF, mapF, mapI, mapE, Option.map_some, Option.map_none, Sum.map_inl, Sum.map_inr, elimF, mapS, mIm, mLm, mRm, mVm, sIm, sLm, sRm, Nat.reduceLeDiff]
theorem fr_kM_keep {ρ : Mem} (σ : Mem) (x1 : Int32) (x2 : Int32) : kM_keep (ovH ρ σ) x1 x2 = (kM_keep σ x1 x2).map (fun (x : Unit × Mem) => (x.1, (ovH ρ x.2))) := by
  simp only [kM_keep, bindF, mapF, mapI, mapE, Option.map_some, Option.map_none, Sum.map_inl, Sum.map_inr, elimF, mapS, mIm, mLm, mRm, mVm, sIm, sLm, sRm, Nat.reduceLeDiff, fl_kM_keep_s2, fr_kM_keep_x87]
theorem fr_kM_gives_j242 {ρ : Mem} (σ : Mem) (x3 : Int32) (x4 : Int32) (x5 : Int32) (x6 : Int32) (x8 : Int32) : kM_gives_j242 (ovH ρ σ) x3 x4 x5 x6 x8 = (kM_gives_j242 σ x3 x4 x5 x6 x8).map (fun (x : Int32 × Mem) => (x.1, (ovH ρ x.2))) := by
  simp only [kM_gives_j242, bindF, mapF, mapI, mapE, Option.map_some, Option.map_none, Sum.map_inl, Sum.map_inr, elimF, mapS, mIm, mLm, mRm, mVm, sIm, sLm, sRm, Nat.reduceLeDiff, fr_kM_canAll]
theorem fr_kM_gives_j216 {ρ : Mem} (σ : Mem) (x3 : Int32) (x4 : Int32) (x5 : Int32) (x6 : Int32) (x8 : Int32) : kM_gives_j216 (ovH ρ σ) x3 x4 x5 x6 x8 = (kM_gives_j216 σ x3 x4 x5 x6 x8).map (fun (x : Int32 × Mem) => (x.1, (ovH ρ x.2))) := by
  simp only [kM_gives_j216, bindF, mapF, mapI, mapE, Option.map_some, Option.map_none, Sum.map_inl, Sum.map_inr, elimF, mapS, mIm, mLm, mRm, mVm, sIm, sLm, sRm, Nat.reduceLeDiff, fr_kM_gives_j242]
theorem fr_kM_gives_j180 {ρ : Mem} (σ : Mem) (x3 : Int32) (x4 : Int32) (x5 : Int32) (x6 : Int32) (x7 : Int32) : kM_gives_j180 (ovH ρ σ) x3 x4 x5 x6 x7 = (kM_gives_j180 σ x3 x4 x5 x6 x7).map (fun (x : Int32 × Mem) => (x.1, (ovH ρ x.2))) := by
  simp only [kM_gives_j180, bindF, mapF, mapI, mapE, Option.map_some, Option.map_none, Sum.map_inl, Sum.map_inr, elimF, mapS, mIm, mLm, mRm, mVm, sIm, sLm, sRm, Nat.reduceLeDiff, fr_kM_gives_j216, fr_kM_isFree]
theorem fr_kM_gives_j166 {ρ : Mem} (σ : Mem) (x3 : Int32) (x4 : Int32) (x5 : Int32) (x6 : Int32) (x7 : Int32) : kM_gives_j166 (ovH ρ σ) x3 x4 x5 x6 x7 = (kM_gives_j166 σ x3 x4 x5 x6 x7).map (fun (x : Int32 × Mem) => (x.1, (ovH ρ x.2))) := by
  simp only [kM_gives_j166, bindF, mapF, mapI, mapE, Option.map_some, Option.map_none, Sum.map_inl, Sum.map_inr, elimF, mapS, mIm, mLm, mRm, mVm, sIm, sLm, sRm, Nat.reduceLeDiff, fr_kM_gives_j180]
theorem fr_kM_gives_j155 {ρ : Mem} (σ : Mem) (x3 : Int32) (x4 : Int32) (x5 : Int32) (x6 : Int32) (x7 : Int32) : kM_gives_j155 (ovH ρ σ) x3 x4 x5 x6 x7 = (kM_gives_j155 σ x3 x4 x5 x6 x7).map (fun (x : Int32 × Mem) => (x.1, (ovH ρ x.2))) := by
  simp only [kM_gives_j155, bindF, mapF, mapI, mapE, Option.map_some, Option.map_none, Sum.map_inl, Sum.map_inr, elimF, mapS, mIm, mLm, mRm, mVm, sIm, sLm, sRm, Nat.reduceLeDiff, fr_kM_gives_j166]
theorem fr_kM_gives_j100 {ρ : Mem} (σ : Mem) (x3 : Int32) (x4 : Int32) (x5 : Int32) (x6 : Int32) (x7 : Int32) (y0 : Int32) (y1 : Int32) : kM_gives_j100 (ovH ρ σ) x3 x4 x5 x6 x7 y0 y1 = (kM_gives_j100 σ x3 x4 x5 x6 x7 y0 y1).map (fun (x : Int32 × Mem) => (x.1, (ovH ρ x.2))) := by
  simp only [kM_gives_j100, bindF, mapF, mapI, mapE, Option.map_some, Option.map_none, Sum.map_inl, Sum.map_inr, elimF, mapS, mIm, mLm, mRm, mVm, sIm, sLm, sRm, Nat.reduceLeDiff, fr_kM_gives_j155]
theorem fr_kM_gives_j90 {ρ : Mem} (σ : Mem) (x3 : Int32) (x4 : Int32) (x5 : Int32) (x6 : Int32) (x7 : Int32) (y0 : Int32) : kM_gives_j90 (ovH ρ σ) x3 x4 x5 x6 x7 y0 = (kM_gives_j90 σ x3 x4 x5 x6 x7 y0).map (fun (x : Int32 × Mem) => (x.1, (ovH ρ x.2))) := by
  simp only [kM_gives_j90, bindF, mapF, mapI, mapE, Option.map_some, Option.map_none, Sum.map_inl, Sum.map_inr, elimF, mapS, mIm, mLm, mRm, mVm, sIm, sLm, sRm, Nat.reduceLeDiff, fr_kM_gives_j100]
theorem fr_kM_gives_j76 {ρ : Mem} (σ : Mem) (x3 : Int32) (x4 : Int32) (x5 : Int32) (x6 : Int32) (x7 : Int32) (y0 : Int32) (y1 : Int32) : kM_gives_j76 (ovH ρ σ) x3 x4 x5 x6 x7 y0 y1 = (kM_gives_j76 σ x3 x4 x5 x6 x7 y0 y1).map (fun (x : Int32 × Mem) => (x.1, (ovH ρ x.2))) := by
  simp only [kM_gives_j76, bindF, mapF, mapI, mapE, Option.map_some, Option.map_none, Sum.map_inl, Sum.map_inr, elimF, mapS, mIm, mLm, mRm, mVm, sIm, sLm, sRm, Nat.reduceLeDiff, fr_kM_gives_j90]
theorem fr_kM_gives_j25 {ρ : Mem} (σ : Mem) (x1 : Int32) (x3 : Int32) (x4 : Int32) (y0 : Int32) : kM_gives_j25 (ovH ρ σ) x1 x3 x4 y0 = (kM_gives_j25 σ x1 x3 x4 y0).map (fun (x : Int32 × Mem) => (x.1, (ovH ρ x.2))) := by
  simp only [kM_gives_j25, bindF, mapF, mapI, mapE, Option.map_some, Option.map_none, Sum.map_inl, Sum.map_inr, elimF, mapS, mIm, mLm, mRm, mVm, sIm, sLm, sRm, Nat.reduceLeDiff, fr_kM_isRoom, fr_kM_isOpen, fr_kM_gives_j76]
theorem fr_kM_gives {ρ : Mem} (σ : Mem) (x1 : Int32) (x2 : Int32) : kM_gives (ovH ρ σ) x1 x2 = (kM_gives σ x1 x2).map (fun (x : Int32 × Mem) => (x.1, (ovH ρ x.2))) := by
  simp only [kM_gives, bindF, mapF, mapI, mapE, Option.map_some, Option.map_none, Sum.map_inl, Sum.map_inr, elimF, mapS, mIm, mLm, mRm, mVm, sIm, sLm, sRm, Nat.reduceLeDiff, fr_kM_gives_j25]
theorem fr_kM_plan_s87 {ρ : Mem} (x1 : Int32) (z0 : Int32) (σ : Mem) : kM_plan_s87 x1 (z0, ovH ρ σ) = (kM_plan_s87 x1 (z0, σ)).map (Sum.map (fun (x : Int32 × Mem) => (x.1, (ovH ρ x.2))) (fun (x : Mem) => (ovH ρ x))) := by
  simp only [kM_plan_s87, bindF, mapF, mapI, mapE, Option.map_some, Option.map_none, Sum.map_inl, Sum.map_inr, elimF, mapS, mIm, mLm, mRm, mVm, sIm, sLm, sRm, Nat.reduceLeDiff, fr_kM_gives]
theorem fl_kM_plan_s87 {ρ : Mem} (x1 : Int32) (z0 : Int32) (σ : Mem) : loopF FU (kM_plan_s87 x1) (z0, ovH ρ σ) = (loopF FU (kM_plan_s87 x1) (z0, σ)).map (fun (x : Mem) => (ovH ρ x)) :=
  loopM (a := (fun (x : Int32 × Mem) => (x.1, (ovH ρ x.2)))) (b := (fun (x : Mem) => (ovH ρ x))) (fun s => fr_kM_plan_s87 x1 s.1 s.2) FU (z0, σ)
theorem fr_kM_plan_s176 {ρ : Mem} (x1 : Int32) (x2 : Int32) (z0 : Int32) (σ : Mem) : kM_plan_s176 x1 x2 (z0, ovH ρ σ) = (kM_plan_s176 x1 x2 (z0, σ)).map (Sum.map (fun (x : Int32 × Mem) => (x.1, (ovH ρ x.2))) (fun (x : Mem) => (ovH ρ x))) := by
  simp only [kM_plan_s176, bindF, mapF, mapI, mapE, Option.map_some, Option.map_none, Sum.map_inl, Sum.map_inr, elimF, mapS, mIm, mLm, mRm, mVm, sIm, sLm, sRm, Nat.reduceLeDiff, fr_kM_gives]
theorem fl_kM_plan_s176 {ρ : Mem} (x1 : Int32) (x2 : Int32) (z0 : Int32) (σ : Mem) : loopF FU (kM_plan_s176 x1 x2) (z0, ovH ρ σ) = (loopF FU (kM_plan_s176 x1 x2) (z0, σ)).map (fun (x : Mem) => (ovH ρ x)) :=
  loopM (a := (fun (x : Int32 × Mem) => (x.1, (ovH ρ x.2)))) (b := (fun (x : Mem) => (ovH ρ x))) (fun s => fr_kM_plan_s176 x1 x2 s.1 s.2) FU (z0, σ)
theorem fr_kM_plan_x245 {ρ : Mem} (σ : Mem) (x1 : Int32) (x2 : Int32) : kM_plan_x245 (ovH ρ σ) x1 x2 = (kM_plan_x245 σ x1 x2).map (Sum.map (fun (x : Int32 × Mem) => (x.1, (ovH ρ x.2))) (fun (x : Mem) => (ovH ρ x))) := by
  simp only [kM_plan_x245, bindF, mapF, mapI, mapE, Option.map_some, Option.map_none, Sum.map_inl, Sum.map_inr, elimF, mapS, mIm, mLm, mRm, mVm, sIm, sLm, sRm, Nat.reduceLeDiff]
theorem fr_kM_plan_s166 {ρ : Mem} (x1 : Int32) (z0 : Int32) (σ : Mem) : kM_plan_s166 x1 (z0, ovH ρ σ) = (kM_plan_s166 x1 (z0, σ)).map (Sum.map (fun (x : Int32 × Mem) => (x.1, (ovH ρ x.2))) (fun (x : Mem) => (ovH ρ x))) := by
  simp only [kM_plan_s166, bindF, mapF, mapI, mapE, Option.map_some, Option.map_none, Sum.map_inl, Sum.map_inr, elimF, mapS, mIm, mLm, mRm, mVm, sIm, sLm, sRm, Nat.reduceLeDiff, fl_kM_plan_s176, fr_kM_plan_x245]
theorem fl_kM_plan_s166 {ρ : Mem} (x1 : Int32) (z0 : Int32) (σ : Mem) : loopF FU (kM_plan_s166 x1) (z0, ovH ρ σ) = (loopF FU (kM_plan_s166 x1) (z0, σ)).map (fun (x : Mem) => (ovH ρ x)) :=
  loopM (a := (fun (x : Int32 × Mem) => (x.1, (ovH ρ x.2)))) (b := (fun (x : Mem) => (ovH ρ x))) (fun s => fr_kM_plan_s166 x1 s.1 s.2) FU (z0, σ)
theorem fr_kM_plan_x251 {ρ : Mem} (σ : Mem)  : kM_plan_x251 (ovH ρ σ) = (kM_plan_x251 σ).map (fun (x : Unit × Mem) => (x.1, (ovH ρ x.2))) := by
  simp only [kM_plan_x251, bindF, mapF, mapI, mapE, Option.map_some, Option.map_none, Sum.map_inl, Sum.map_inr, elimF, mapS, mIm, mLm, mRm, mVm, sIm, sLm, sRm, Nat.reduceLeDiff]
theorem fr_kM_plan_x164 {ρ : Mem} (σ : Mem) (x1 : Int32) : kM_plan_x164 (ovH ρ σ) x1 = (kM_plan_x164 σ x1).map (fun (x : Unit × Mem) => (x.1, (ovH ρ x.2))) := by
  simp only [kM_plan_x164, bindF, mapF, mapI, mapE, Option.map_some, Option.map_none, Sum.map_inl, Sum.map_inr, elimF, mapS, mIm, mLm, mRm, mVm, sIm, sLm, sRm, Nat.reduceLeDiff, fl_kM_plan_s166, fr_kM_plan_x251]
theorem fr_kM_plan_x62 {ρ : Mem} (σ : Mem) (x1 : Int32) : kM_plan_x62 (ovH ρ σ) x1 = (kM_plan_x62 σ x1).map (fun (x : Unit × Mem) => (x.1, (ovH ρ x.2))) := by
  simp only [kM_plan_x62, bindF, mapF, mapI, mapE, Option.map_some, Option.map_none, Sum.map_inl, Sum.map_inr, elimF, mapS, mIm, mLm, mRm, mVm, sIm, sLm, sRm, Nat.reduceLeDiff, fr_kM_fresh, fr_kM_keep, fl_kM_plan_s87, fr_kM_plan_x164]
theorem fr_kM_plan_x42 {ρ : Mem} (σ : Mem) (x1 : Int32) : kM_plan_x42 (ovH ρ σ) x1 = (kM_plan_x42 σ x1).map (fun (x : Unit × Mem) => (x.1, (ovH ρ x.2))) := by
  simp only [kM_plan_x42, bindF, mapF, mapI, mapE, Option.map_some, Option.map_none, Sum.map_inl, Sum.map_inr, elimF, mapS, mIm, mLm, mRm, mVm, sIm, sLm, sRm, Nat.reduceLeDiff, fl_kM_plan_s44, fr_kM_plan_x62]
theorem fr_kM_plan {ρ : Mem} (σ : Mem) (x1 : Int32) : kM_plan (ovH ρ σ) x1 = (kM_plan σ x1).map (fun (x : Unit × Mem) => (x.1, (ovH ρ x.2))) := by
  simp only [kM_plan, bindF, mapF, mapI, mapE, Option.map_some, Option.map_none, Sum.map_inl, Sum.map_inr, elimF, mapS, mIm, mLm, mRm, mVm, sIm, sLm, sRm, Nat.reduceLeDiff, fl_kM_plan_s2, fr_kM_plan_x42]
