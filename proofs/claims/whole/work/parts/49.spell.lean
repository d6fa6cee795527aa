/-! adds: the class's spelling -/
set_option maxRecDepth 100000 in
theorem spell1 : ∀ a : Fin 8, f_X8_spellingOf (iz ((a.val : Nat) : Int)) (-1 : Int32) (-1 : Int32) = some (pk [a.val]) := by decide
set_option maxRecDepth 100000 in
theorem spell2 : ∀ a b : Fin 8, f_X8_spellingOf (iz ((a.val : Nat) : Int)) (iz ((b.val : Nat) : Int)) (-1 : Int32) = some (pk [a.val, b.val]) := by decide
set_option maxRecDepth 100000 in
theorem spell3 : ∀ a b c : Fin 8, f_X8_spellingOf (iz ((a.val : Nat) : Int)) (iz ((b.val : Nat) : Int)) (iz ((c.val : Nat) : Int)) = some (pk [a.val, b.val, c.val]) := by decide
