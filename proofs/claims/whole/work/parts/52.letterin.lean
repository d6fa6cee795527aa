/-! a letter of a packed spelling -/
theorem lush_amt : ∀ k : Fin 16, ((4 : Int32) * iz ((k.val : Nat) : Int)).toInt64.toUInt64 &&& Int64.toUInt64 63 = UInt64.ofNat (4 * k.val) := by decide
theorem lushN {n : Nat} (hn : n < 2 ^ 63) {k : Nat} (hk : k < 16) : lush (Int64.ofNat n) ((4 : Int32) * iz (k : Int)) = Int64.ofNat (n / 16 ^ k) := by
  have e := lush_amt ⟨k, hk⟩
  have hu : ∀ m : Nat, (Int64.ofNat m).toUInt64 = UInt64.ofNat m := fun _ => rfl
  have hd : n / 16 ^ k < 2 ^ 63 := Nat.lt_of_le_of_lt (Nat.div_le_self _ _) hn
  have hg : (UInt64.ofNat n >>> UInt64.ofNat (4 * k)) = UInt64.ofNat (n / 16 ^ k) := by
    apply UInt64.toNat_inj.mp
    rw [UInt64.toNat_shiftRight, UInt64.toNat_ofNat', UInt64.toNat_ofNat', UInt64.toNat_ofNat', Nat.mod_eq_of_lt (show n < 2 ^ 64 by omega), Nat.mod_eq_of_lt (show 4 * k < 2 ^ 64 by omega), Nat.mod_eq_of_lt (show 4 * k < 64 by omega), Nat.mod_eq_of_lt (show n / 16 ^ k < 2 ^ 64 by omega), Nat.shiftRight_eq_div_pow, Nat.pow_mul]
  show UInt64.toInt64 ((Int64.ofNat n).toUInt64 >>> (((4 : Int32) * iz (k : Int)).toInt64.toUInt64 &&& Int64.toUInt64 63)) = _
  rw [e, hu, hg]; rfl
theorem and15 {n : Nat} (hn : n < 2 ^ 63) : Int64.ofNat n &&& (15 : Int64) = Int64.ofNat (n % 16) := by
  have hg : (UInt64.ofNat n &&& UInt64.ofNat 15) = UInt64.ofNat (n % 16) := by
    apply UInt64.toNat_inj.mp
    rw [UInt64.toNat_and, UInt64.toNat_ofNat', UInt64.toNat_ofNat', UInt64.toNat_ofNat', Nat.mod_eq_of_lt (show n < 2 ^ 64 by omega), Nat.mod_eq_of_lt (show 15 < 2 ^ 64 by omega), Nat.mod_eq_of_lt (show n % 16 < 2 ^ 64 by omega)]
    exact Nat.and_two_pow_sub_one_eq_mod n 4
  exact congrArg UInt64.toInt64 hg
theorem to32 : ∀ m : Fin 16, (Int64.ofNat m.val).toInt32 - (1 : Int32) = iz ((m.val : Int) - 1) := by decide
theorem pkN_lt63 {l : List Nat} (hl : l.length ≤ 12) (h : ∀ a ∈ l, a < 8) : pkN l < 2 ^ 63 := by
  have h1 := pkN_lt l (fun a ha => by have := h a ha; omega)
  have h2 : 16 ^ l.length ≤ 16 ^ 12 := Nat.pow_le_pow_right (by omega) hl
  have h3 : (16 : Nat) ^ 12 < 2 ^ 63 := by decide
  omega
theorem letterIn_pk {l : List Nat} (hl : l.length ≤ 12) (h : ∀ a ∈ l, a < 8) {k a : Nat} (hk : l[k]? = some a) : f_X8_letterIn (pk l) (iz (k : Int)) = some (iz (a : Int)) := by
  have hk2 : k < l.length := (List.getElem?_eq_some_iff.mp hk).1
  have ha : a < 8 := h a (List.mem_of_getElem? hk)
  have hn := pkN_lt63 hl h
  have hd : pkN l / 16 ^ k < 2 ^ 63 := Nat.lt_of_le_of_lt (Nat.div_le_self _ _) hn
  have hm : pkN l / 16 ^ k % 16 = a + 1 := by
    rw [← pkN_drop k l (fun b hb => by have := h b hb; omega), List.drop_eq_getElem_cons hk2]
    have : l[k] = a := (List.getElem?_eq_some_iff.mp hk).2
    rw [this]
    show ((a + 1) + 16 * pkN (l.drop (k + 1))) % 16 = a + 1
    omega
  have e : ((lush (pk l) ((4 : Int32) * iz (k : Int))) &&& (15 : Int64)) = Int64.ofNat (a + 1) := by
    show (lush (Int64.ofNat (pkN l)) _) &&& _ = _
    rw [lushN hn (by omega), and15 hd, hm]
  unfold f_X8_letterIn
  rw [e]
  have t := to32 ⟨a + 1, by omega⟩
  rw [t]
  congr 2
  show ((a + 1 : Nat) : Int) - 1 = (a : Int)
  omega
