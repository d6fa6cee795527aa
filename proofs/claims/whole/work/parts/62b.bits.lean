/-! bits counted -/
set_option maxRecDepth 100000 in
theorem bits_same : ∀ x : Fin 2048, ∃ y : Fin 40, f_J6_bitCount_0f7a4 (iz ((x.val : Nat) : Int)) = some (iz ((y.val : Nat) : Int)) ∧ f_X9_bits (iz ((x.val : Nat) : Int)) = some (iz ((y.val : Nat) : Int)) := by decide +kernel
