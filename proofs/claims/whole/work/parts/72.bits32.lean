theorem nI_or (a b : Nat) : nI a ||| nI b = nI (a ||| b) := by
  unfold nI
  first
  | exact (Int32.ofNat_or ..).symm
  | (apply Int32.toBitVec_inj.mp; simp [Int32.toBitVec_or, BitVec.ofNat_or]; done)
theorem shF : ∀ f, f < 10 → ((1 : Int32) <<< (nI f &&& 31)) = nI (2 ^ f) ∧ 2 ^ f < 1024 := by decide +kernel
theorem orF : ∀ f, f < 10 → ∀ m, m < 1024 → (nI m ||| ((1 : Int32) <<< (nI f &&& 31))) = nI (m ||| 2 ^ f) ∧ m ||| 2 ^ f < 1024 := by
  intro f hf m hm
  obtain ⟨h1, h2⟩ := shF f hf
  refine ⟨?_, ?_⟩
  · rw [h1, nI_or]
  · exact Nat.or_lt_two_pow (n := 10) hm h2
def rs (m : Int32) : Nat → Int32
  | 0 => 0
  | k + 1 => rs m k + ((m >>> (nI k &&& 31)) &&& 1)
def mem0 : Mem := (fun _ _ _ => 0, fun _ _ _ => 0, fun _ _ _ => none, fun _ _ => false)
theorem bc0 : ∀ m, m < 1024 → (kJ_bitCount mem0 (nI m)).map Prod.fst = some (rs (nI m) 10) := by decide +kernel
theorem bc32 {σ : Mem} {m : Nat} (h : m < 1024) : kJ_bitCount σ (nI m) = some (rs (nI m) 10, σ) := by
  have e : kJ_bitCount σ (nI m) = ((kJ_bitCount mem0 (nI m)).map Prod.fst).map (fun v => (v, σ)) := rfl
  rw [e, bc0 m h]
  rfl
