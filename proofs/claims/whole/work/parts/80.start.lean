/-! the start -/
def stI (t k : Nat) : Int32 := match t with
  | 31 => if k < 16 then (-1) else 0
  | 34 => if k < 16 then (-1) else 0
  | _ => 0
def L0 : List (Nat × Nat) := [(0, 0), (1, 0), (2, 0), (3, 0), (4, 0), (5, 0), (6, 0), (7, 0), (8, 0), (9, 0), (10, 0), (11, 0), (12, 0), (13, 0), (14, 0), (15, 0), (16, 0), (16, 1), (16, 2), (16, 3), (16, 4), (17, 0), (18, 0), (19, 0), (30, 0), (31, 0), (32, 0), (33, 0), (34, 0), (35, 0), (36, 0), (37, 0), (40, 0), (41, 0), (42, 0), (43, 0), (44, 0), (45, 0), (46, 0), (47, 0), (48, 0), (49, 0), (51, 0), (53, 0), (54, 0), (55, 0), (56, 0), (57, 0), (58, 0), (59, 0), (60, 0), (61, 0), (63, 0), (64, 0)]
def mem1 : Mem := (fun t _ k => stI t k, fun _ _ _ => 0, fun _ _ _ => none, fun t i => L0.contains (t, i))
theorem mem1_31 {p : Nat} (hp : p < 16) : mI mem1 31 0 p = -1 := if_pos hp
theorem mem1_34 {p : Nat} (hp : p < 16) : mI mem1 34 0 p = -1 := if_pos hp
theorem mem1_no {t i : Nat} (h : ¬ (t, i) ∈ L0) : mV mem1 t i = false := by
  show L0.contains (t, i) = false
  cases e : L0.contains (t, i) with
  | false => rfl
  | true => exact absurd (List.contains_iff_mem.mp e) h
theorem mem1_INV : INV mem1 := by
  refine ⟨0, 0, 0, 0, fun p hp => ?_, ⟨by omega, rfl, rfl, fun q hq => by omega, fun q _ => ⟨mem1_no (by simp [L0]), mem1_no (by simp [L0])⟩⟩, ⟨by omega, rfl, rfl, 0, by omega, rfl, rfl⟩, fun n hn => by omega, ⟨rfl, by omega, by omega, fun n _ hn => by omega⟩, fun q hq => by omega, ?_, ⟨rfl, rfl, rfl⟩⟩
  · have e31 := mem1_31 hp
    have e34 := mem1_34 hp
    have hr : isRm mem1 p = false := by
      unfold isRm
      rw [e31, show decide ((0 : Int32) ≤ -1) = false from rfl]
      simp
    refine ⟨Or.inl e31, by rw [hr]; rfl, by rw [e31]; rfl, ?_, Or.inl rfl, fun _ => ⟨e34, rfl, rfl⟩, (fun h => absurd h (by rw [hr]; decide)), Or.inl e34⟩
    rw [hr]
    exact mem1_no (by simp [L0])
  · refine ⟨by omega, rfl, rfl, fun w hw n hn => ?_, fun j hj => ?_, fun j hj => ?_⟩
    · exact ⟨rfl, 0, by omega, rfl⟩
    · omega
    · exact ⟨mem1_no (by simp [L0]), fun _ => rfl⟩
def start0 : Hp := up (CM_init (up CG_init (30, 0) rawM)) (0, 0) (.inl (1, 1, .inr (.inl (fun _ => 0))))
theorem start0_in : ∀ q ∈ L0, start0 q = hp mem1 q := by
  simp only [L0, List.forall_mem_cons]
  refine ⟨rfl, rfl, rfl, rfl, rfl, rfl, rfl, rfl, rfl, rfl, rfl, rfl, rfl, rfl, rfl, rfl, rfl, rfl, rfl, rfl, rfl, rfl, rfl, rfl, rfl, rfl, rfl, rfl, rfl, rfl, rfl, rfl, rfl, rfl, rfl, rfl, rfl, rfl, rfl, rfl, rfl, rfl, rfl, rfl, rfl, rfl, rfl, rfl, rfl, rfl, rfl, rfl, rfl, rfl, fun _ h => by cases h⟩
theorem up_out {h : Hp} {q a : Hd} {e : AE} (hne : q ≠ a) (h0 : h q = none) : up h a e q = none := (if_neg hne).trans h0
theorem start0_out {q : Hd} (h : ¬ q ∈ L0) : start0 q = none := by
  have k : ∀ a, a ∈ L0 → q ≠ a := fun a ha z => h (z ▸ ha)
  unfold start0 CM_init CM_arr CG_init CT_init CP_init CV_init CB_init CH_init
  repeat (refine up_out (k _ (by decide)) ?_)
  rfl
theorem start0_hp : start0 = hp mem1 := funext fun q => by
  by_cases h : q ∈ L0
  · exact start0_in q h
  · rw [start0_out h]
    unfold hp
    rw [if_neg (by rw [mem1_no (t := q.1) (i := q.2) h]; decide)]
