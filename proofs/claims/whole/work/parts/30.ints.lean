/-! numbers: every int by its whole number; what the systems hold, in words of lists -/
def iz (z : Int) : Int32 := Int32.ofInt z
theorem iz_toInt {z : Int} (h1 : -2147483648 ≤ z) (h2 : z < 2147483648) : (iz z).toInt = z := Int32.toInt_ofInt_of_le (by omega) (by omega)
theorem iz_of (x : Int32) : x = iz x.toInt := (Int32.ofInt_toInt x).symm
theorem iz_ex (x : Int32) : ∃ z : Int, -2147483648 ≤ z ∧ z < 2147483648 ∧ x = iz z := ⟨x.toInt, by have := Int32.le_toInt x; omega, by have := Int32.toInt_lt x; omega, iz_of x⟩
theorem iz_add (a b : Int) : iz a + iz b = iz (a + b) := (Int32.ofInt_add a b).symm
theorem iz_sub (a b : Int) : iz a - iz b = iz (a - b) := (Int32.ofInt_sub a b).symm
theorem iz_mul (a b : Int) : iz a * iz b = iz (a * b) := (Int32.ofInt_mul a b).symm
theorem iz_neg (a : Int) : -iz a = iz (-a) := (Int32.ofInt_neg a).symm
theorem iz_lt {a b : Int} (h1 : -2147483648 ≤ a) (h2 : a < 2147483648) (h3 : -2147483648 ≤ b) (h4 : b < 2147483648) : iz a < iz b ↔ a < b := by
  rw [Int32.lt_iff_toInt_lt, iz_toInt h1 h2, iz_toInt h3 h4]
theorem iz_le {a b : Int} (h1 : -2147483648 ≤ a) (h2 : a < 2147483648) (h3 : -2147483648 ≤ b) (h4 : b < 2147483648) : iz a ≤ iz b ↔ a ≤ b := by
  rw [Int32.le_iff_toInt_le, iz_toInt h1 h2, iz_toInt h3 h4]
theorem iz_eq {a b : Int} (h1 : -2147483648 ≤ a) (h2 : a < 2147483648) (h3 : -2147483648 ≤ b) (h4 : b < 2147483648) : iz a = iz b ↔ a = b := by
  rw [← Int32.toInt_inj, iz_toInt h1 h2, iz_toInt h3 h4]
theorem iz_nat (n : Nat) : Int32.ofNat n = iz n := (Int32.ofInt_eq_ofNat (n := n)).symm
theorem iz_lit (n : Nat) : (@OfNat.ofNat Int32 n Int32.instOfNat) = iz (@OfNat.ofNat Int n _) := (Int32.ofInt_eq_ofNat (n := n)).symm
theorem iz_m1 {b : Int} (h2 : 0 < b) (h3 : b < 2147483648) : iz b ≠ -1 := by
  intro h
  have h := congrArg Int32.toInt h
  rw [iz_toInt (by omega) h3, show (-1 : Int32).toInt = -1 from by decide] at h
  omega
theorem iz_cl {z : Int} (h1 : -2147483648 ≤ z) (h2 : z < 2147483648) : (iz z).toNatClampNeg = z.toNat := by
  show (iz z).toInt.toNat = _
  rw [iz_toInt h1 h2]
theorem iz_i (z : Nat) : iz ((z : Int)) = Int32.ofNat z := (iz_nat z).symm
theorem iz_irm {a b : Int} (h0 : 0 ≤ a) (h1 : a < 2147483648) (h2 : 0 < b) (h3 : b < 2147483648) : irm (iz a) (iz b) = iz (a % b) := by
  unfold irm
  have hd : iz a / iz b = iz (a / b) := by
    rw [← Int32.toInt_inj, Int32.toInt_div_of_ne_right _ _ (iz_m1 h2 h3), iz_toInt (by omega) h1, iz_toInt (by omega) h3, iz_toInt (by have := Int.ediv_nonneg h0 (Int.le_of_lt h2); omega) (by have := Int.ediv_le_self b h0; omega), Int.tdiv_eq_ediv_of_nonneg h0]
  rw [hd, iz_mul, iz_sub]
  congr 1
  have := Int.emod_def a b
  rw [this, Int.mul_comm]
theorem iz_div {a b : Int} (h0 : 0 ≤ a) (h1 : a < 2147483648) (h2 : 0 < b) (h3 : b < 2147483648) : iz a / iz b = iz (a / b) := by
  rw [← Int32.toInt_inj, Int32.toInt_div_of_ne_right _ _ (iz_m1 h2 h3), iz_toInt (by omega) h1, iz_toInt (by omega) h3, iz_toInt (by have := Int.ediv_nonneg h0 (Int.le_of_lt h2); omega) (by have := Int.ediv_le_self b h0; omega), Int.tdiv_eq_ediv_of_nonneg h0]
/-- an index inside -/
theorem inB_iz {i : Int} {n : Nat} (h0 : 0 ≤ i) (h1 : i < n) (hn : n < 100000) : inB (iz i) n := by
  intro h
  rcases h with h | h
  · rw [iz_lit, iz_lt (by omega) (by omega) (by omega) (by omega)] at h; omega
  · rw [iz_cl (by omega) (by omega)] at h; omega
theorem g_t {α : Type} {c : Prop} [Decidable c] {o : Option α} (h : c) : gq c o = o := if_pos h
/-! loops: with fuel enough -/
theorem FU_eq : FU = 1000 := rfl
