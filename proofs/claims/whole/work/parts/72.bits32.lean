theorem orF : ∀ f, f < 10 → ∀ m, m < 1024 → (nI m ||| ((1 : Int32) <<< (nI f &&& 31))) = nI (m ||| 2 ^ f) ∧ m ||| 2 ^ f < 1024 := by decide +kernel
def rs (m : Int32) : Nat → Int32
  | 0 => 0
  | k + 1 => rs m k + ((m >>> (nI k &&& 31)) &&& 1)
def mem0 : Mem := (fun _ _ _ => 0, fun _ _ _ => 0, fun _ _ _ => none, fun _ _ => false)
theorem bc0 : ∀ m, m < 1024 → (kJ_bitCount mem0 (nI m)).map Prod.fst = some (rs (nI m) 10) := by decide +kernel
theorem bc32 {σ : Mem} {m : Nat} (h : m < 1024) : kJ_bitCount σ (nI m) = some (rs (nI m) 10, σ) := by
  have e : kJ_bitCount σ (nI m) = ((kJ_bitCount mem0 (nI m)).map Prod.fst).map (fun v => (v, σ)) := rfl
  rw [e, bc0 m h]
  rfl
