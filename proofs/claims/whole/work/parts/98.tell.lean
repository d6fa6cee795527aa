/-! the second pass: the class's tellings -/
theorem or64 (a b : Nat) (ha : a < 2 ^ 64) (hb : b < 2 ^ 64) : Int64.ofNat a ||| Int64.ofNat b = Int64.ofNat (a ||| b) := by
  have hab : a ||| b < 2 ^ 64 := Nat.or_lt_two_pow (n := 64) ha hb
  have hg : (UInt64.ofNat a ||| UInt64.ofNat b) = UInt64.ofNat (a ||| b) := by
    apply UInt64.toNat_inj.mp
    rw [UInt64.toNat_or, UInt64.toNat_ofNat', UInt64.toNat_ofNat', UInt64.toNat_ofNat', Nat.mod_eq_of_lt ha, Nat.mod_eq_of_lt hb, Nat.mod_eq_of_lt hab]
  exact congrArg UInt64.toInt64 hg
theorem shlN : ∀ a : Fin 8, ∀ k : Fin 12, lshl ((iz (a.val : Int) + (1 : Int32)).toInt64) ((4 : Int32) * iz (k.val : Int)) = Int64.ofNat ((a.val + 1) * 16 ^ k.val) := by decide +kernel
theorem c_spellOn {l : List Nat} {a : Nat} (hl : l.length < 12) (h : ∀ b ∈ l, b < 8) (ha : a < 8) : f_X8_spelledOn (pk l) (iz (l.length : Int)) (iz (a : Int)) = some (pk (l ++ [a])) := by
  have h1 := pkN_lt l (fun b hb => by have := h b hb; omega)
  have h2 := shlN ⟨a, ha⟩ ⟨l.length, hl⟩
  have e16 : ∀ n : Nat, 16 ^ n = 2 ^ (4 * n) := fun n => by rw [Nat.pow_mul]
  have hpow : (16 : Nat) ^ l.length ≤ 16 ^ 11 := Nat.pow_le_pow_right (by omega) (by omega)
  have hmul : (a + 1) * 16 ^ l.length ≤ 8 * 16 ^ 11 := Nat.mul_le_mul (by omega) hpow
  have hor : pkN l ||| (a + 1) * 16 ^ l.length = pkN l + (a + 1) * 16 ^ l.length := by
    rw [e16] at h1 ⊢
    have h3 := Nat.two_pow_add_eq_or_of_lt h1 (a + 1)
    rw [Nat.or_comm, Nat.mul_comm (a + 1), ← h3]
    exact Nat.add_comm _ _
  have h2 : lshl ((iz (a : Int) + (1 : Int32)).toInt64) ((4 : Int32) * iz (l.length : Int)) = Int64.ofNat ((a + 1) * 16 ^ l.length) := h2
  unfold f_X8_spelledOn
  rw [h2]
  show some (Int64.ofNat (pkN l) ||| _) = some (Int64.ofNat (pkN (l ++ [a])))
  rw [or64 _ _ (by omega) (by omega), hor, pkN_app]
/-- the letters from p -/
def lts (ls : List Nat) : Nat → Nat → List Nat
  | 0, _ => []
  | a + 1, p => (sg ls p - 97).toNat :: lts ls a (p + 1)
theorem lts_len {ls : List Nat} : ∀ a p, (lts ls a p).length = a
  | 0, _ => rfl
  | a + 1, p => by
    show (lts ls a (p + 1)).length + 1 = a + 1
    rw [lts_len a]
theorem lts_lt {ls : List Nat} : ∀ m p, ∀ b ∈ lts ls (lrun ls m p) p, b < 8
  | 0, p, b, h => by cases h
  | m + 1, p, b, h => by
    unfold lrun at h
    by_cases q : isL ls p = true
    · rw [if_pos q] at h
      have qq : 97 ≤ sg ls p ∧ sg ls p ≤ 104 := of_decide_eq_true q
      have h : b ∈ (sg ls p - 97).toNat :: lts ls (lrun ls m (p + 1)) (p + 1) := h
      rcases List.mem_cons.mp h with r | r
      · omega
      · exact lts_lt m (p + 1) b r
    · rw [if_neg q] at h; cases h
theorem c_tWL {ls : List Nat} (hl : okSh ls) : ∀ (d f p : Nat) (acc : List Nat) (M : Mem), acc.length + d = 12 → (∀ b ∈ acc, b < 8) → d < f → p + d ≤ 500 → cSh M ls → gi M 124 3 = iz (p : Int) →
    ∃ M', lq3 f_X5_tellWord_L5 f (pk acc) (iz (acc.length : Int)) M = some (pk (acc ++ lts ls (lrun ls d p) p), iz ((acc.length + lrun ls d p : Nat) : Int), M') ∧ gi M' 124 3 = iz ((p + lrun ls d p : Nat) : Int) ∧ kC M M' := by
  intro d
  induction d with
  | zero =>
    intro f p acc M e1 e2 e3 e4 hs hp
    obtain ⟨f, rfl⟩ : ∃ g, f = g + 1 := ⟨f - 1, by omega⟩
    refine ⟨M, ?_, hp, kC.rf⟩
    rw [lq3_s]
    generalize lq3 f_X5_tellWord_L5 f = K
    unfold f_X5_tellWord_L5
    rw [if_pos (show (12 : Int32) ≤ iz (acc.length : Int) from le_cnt (n := 12) (by omega) (by omega))]
    show _ = some (pk (acc ++ []), iz ((acc.length + 0 : Nat) : Int), M)
    rw [List.append_nil]; rfl
  | succ d ih =>
    intro f p acc M e1 e2 e3 e4 hs hp
    obtain ⟨f, rfl⟩ : ∃ g, f = g + 1 := ⟨f - 1, by omega⟩
    have hst := c_isL hl hs hp (by omega)
    have eL : lrun ls (d + 1) p = (if isL ls p = true then lrun ls d (p + 1) + 1 else 0) := rfl
    rw [eL]
    by_cases q : isL ls p = true
    · have qq : 97 ≤ sg ls p ∧ sg ls p ≤ 104 := of_decide_eq_true q
      rw [if_pos q] at hst ⊢
      have e124 : gi (si M 124 3 (gi M 124 3 + 1)) 124 3 = iz ((p + 1 : Nat) : Int) := by rw [gi_si, if_pos ⟨rfl, rfl⟩, hp, iz_s]
      have ea : iz (sg ls p) - (97 : Int32) = iz (((sg ls p - 97).toNat : Nat) : Int) := by
        rw [show (97 : Int32) = iz 97 from rfl, iz_sub]; congr 1; omega
      have hal : (acc ++ [(sg ls p - 97).toNat]).length = acc.length + 1 := by rw [List.length_append]; rfl
      obtain ⟨M', r1, r2, r3⟩ := ih f (p + 1) (acc ++ [(sg ls p - 97).toNat]) (si M 124 3 (gi M 124 3 + 1)) (by omega) (fun b hb => by
        rcases List.mem_append.mp hb with r | r
        · exact e2 b r
        · rw [List.mem_singleton.mp r]; omega) (by omega) (by omega) (kC.si.sh hs) e124
      refine ⟨M', ?_, by rw [r2]; congr 1; omega, kC.si.tr r3⟩
      rw [lq3_s]
      generalize lq3 f_X5_tellWord_L5 f = K at r1 ⊢
      unfold f_X5_tellWord_L5
      rw [hal] at r1
      rw [if_neg (show ¬ (12 : Int32) ≤ iz (acc.length : Int) from nle_cnt (n := 12) (by omega) (by omega)), hst, b_s1, if_neg (by decide), c_here hl hs hp (by omega), b_s1, ea, c_spellOn (by omega) e2 (by omega), b_s1, nmq_q, nmq_q, iz_s, r1, List.append_assoc]
      show some (pk (acc ++ lts ls (lrun ls d (p + 1) + 1) p), _, _) = _
      rw [show acc.length + 1 + lrun ls d (p + 1) = acc.length + (lrun ls d (p + 1) + 1) by omega]
    · rw [if_neg q] at hst ⊢
      refine ⟨M, ?_, hp, kC.rf⟩
      rw [lq3_s]
      generalize lq3 f_X5_tellWord_L5 f = K
      unfold f_X5_tellWord_L5
      rw [if_neg (show ¬ (12 : Int32) ≤ iz (acc.length : Int) from nle_cnt (n := 12) (by omega) (by omega)), hst, b_s1, if_pos rfl]
      show _ = some (pk (acc ++ []), iz ((acc.length + 0 : Nat) : Int), M)
      rw [List.append_nil]; rfl
theorem c_tPL {ls : List Nat} (hl : okSh ls) : ∀ (d f p : Nat) (acc : List Nat) (M : Mem), acc.length + d = 3 → (∀ b ∈ acc, b < 8) → d < f → p + d ≤ 500 → cSh M ls → gi M 124 3 = iz (p : Int) →
    ∃ M', lq3 f_X5_tellPattern_L5 f (pk acc) (iz (acc.length : Int)) M = some (pk (acc ++ lts ls (lrun ls d p) p), iz ((acc.length + lrun ls d p : Nat) : Int), M') ∧ gi M' 124 3 = iz ((p + lrun ls d p : Nat) : Int) ∧ kC M M' := by
  intro d
  induction d with
  | zero =>
    intro f p acc M e1 e2 e3 e4 hs hp
    obtain ⟨f, rfl⟩ : ∃ g, f = g + 1 := ⟨f - 1, by omega⟩
    refine ⟨M, ?_, hp, kC.rf⟩
    rw [lq3_s]
    generalize lq3 f_X5_tellPattern_L5 f = K
    unfold f_X5_tellPattern_L5
    rw [if_pos (show (3 : Int32) ≤ iz (acc.length : Int) from le_cnt (n := 3) (by omega) (by omega))]
    show _ = some (pk (acc ++ []), iz ((acc.length + 0 : Nat) : Int), M)
    rw [List.append_nil]; rfl
  | succ d ih =>
    intro f p acc M e1 e2 e3 e4 hs hp
    obtain ⟨f, rfl⟩ : ∃ g, f = g + 1 := ⟨f - 1, by omega⟩
    have hst := c_isL hl hs hp (by omega)
    have eL : lrun ls (d + 1) p = (if isL ls p = true then lrun ls d (p + 1) + 1 else 0) := rfl
    rw [eL]
    by_cases q : isL ls p = true
    · have qq : 97 ≤ sg ls p ∧ sg ls p ≤ 104 := of_decide_eq_true q
      rw [if_pos q] at hst ⊢
      have e124 : gi (si M 124 3 (gi M 124 3 + 1)) 124 3 = iz ((p + 1 : Nat) : Int) := by rw [gi_si, if_pos ⟨rfl, rfl⟩, hp, iz_s]
      have ea : iz (sg ls p) - (97 : Int32) = iz (((sg ls p - 97).toNat : Nat) : Int) := by
        rw [show (97 : Int32) = iz 97 from rfl, iz_sub]; congr 1; omega
      have hal : (acc ++ [(sg ls p - 97).toNat]).length = acc.length + 1 := by rw [List.length_append]; rfl
      obtain ⟨M', r1, r2, r3⟩ := ih f (p + 1) (acc ++ [(sg ls p - 97).toNat]) (si M 124 3 (gi M 124 3 + 1)) (by omega) (fun b hb => by
        rcases List.mem_append.mp hb with r | r
        · exact e2 b r
        · rw [List.mem_singleton.mp r]; omega) (by omega) (by omega) (kC.si.sh hs) e124
      refine ⟨M', ?_, by rw [r2]; congr 1; omega, kC.si.tr r3⟩
      rw [lq3_s]
      generalize lq3 f_X5_tellPattern_L5 f = K at r1 ⊢
      unfold f_X5_tellPattern_L5
      rw [hal] at r1
      rw [if_neg (show ¬ (3 : Int32) ≤ iz (acc.length : Int) from nle_cnt (n := 3) (by omega) (by omega)), hst, b_s1, if_neg (by decide), c_here hl hs hp (by omega), b_s1, ea, c_spellOn (by omega) e2 (by omega), b_s1, nmq_q, nmq_q, iz_s, r1, List.append_assoc]
      show some (pk (acc ++ lts ls (lrun ls d (p + 1) + 1) p), _, _) = _
      rw [show acc.length + 1 + lrun ls d (p + 1) = acc.length + (lrun ls d (p + 1) + 1) by omega]
    · rw [if_neg q] at hst ⊢
      refine ⟨M, ?_, hp, kC.rf⟩
      rw [lq3_s]
      generalize lq3 f_X5_tellPattern_L5 f = K
      unfold f_X5_tellPattern_L5
      rw [if_neg (show ¬ (3 : Int32) ≤ iz (acc.length : Int) from nle_cnt (n := 3) (by omega) (by omega)), hst, b_s1, if_pos rfl]
      show _ = some (pk (acc ++ []), iz ((acc.length + 0 : Nat) : Int), M)
      rw [List.append_nil]; rfl
theorem c_numbL {ls : List Nat} (hl : okSh ls) {n : Nat} (hn : n ≤ 3) : ∀ (d f i p : Nat) (x : Int) (M : Mem), i + d = n → d < f → p + d ≤ 500 → cSh M ls → gi M 124 3 = iz (p : Int) →
    ∃ M', lq3 (f_X5_number_L4 (iz (n : Int))) f (iz x) (iz (i : Int)) M = some (iz (dval ls d p x), M') ∧ gi M' 124 3 = iz ((p + d : Nat) : Int) ∧ kC M M' := by
  intro d
  induction d with
  | zero =>
    intro f i p x M e1 e2 e3 hs hp
    obtain ⟨f, rfl⟩ : ∃ g, f = g + 1 := ⟨f - 1, by omega⟩
    refine ⟨M, ?_, hp, kC.rf⟩
    rw [lq3_s]
    generalize lq3 (f_X5_number_L4 (iz (n : Int))) f = K
    unfold f_X5_number_L4
    rw [if_pos (le_cnt (by omega) (by omega))]; rfl
  | succ d ih =>
    intro f i p x M e1 e2 e3 hs hp
    obtain ⟨f, rfl⟩ : ∃ g, f = g + 1 := ⟨f - 1, by omega⟩
    have e124 : gi (si M 124 3 (gi M 124 3 + 1)) 124 3 = iz ((p + 1 : Nat) : Int) := by rw [gi_si, if_pos ⟨rfl, rfl⟩, hp, iz_s]
    obtain ⟨M', r1, r2, r3⟩ := ih f (i + 1) (p + 1) (10 * x + sg ls p - 48) (si M 124 3 (gi M 124 3 + 1)) (by omega) (by omega) (by omega) (kC.si.sh hs) e124
    have ea : (((10 : Int32) * iz x) + iz (sg ls p)) - (48 : Int32) = iz (10 * x + sg ls p - 48) := by
      rw [show (10 : Int32) = iz 10 from rfl, iz_mul, iz_add, show (48 : Int32) = iz 48 from rfl, iz_sub]
    refine ⟨M', ?_, by rw [r2]; congr 1; omega, kC.si.tr r3⟩
    rw [lq3_s]
    generalize lq3 (f_X5_number_L4 (iz (n : Int))) f = K at r1 ⊢
    unfold f_X5_number_L4
    rw [if_neg (nle_cnt (by omega) (by omega)), c_here hl hs hp (by omega), b_s1, nmq_q, nmq_q, nmq_q, ea, iz_s, r1]; rfl
theorem c_number {ls : List Nat} (hl : okSh ls) {n : Nat} (hn : n ≤ 3) {p : Nat} (hp2 : p ≤ 400) {M : Mem} (hs : cSh M ls) (hp : gi M 124 3 = iz (p : Int)) : ∃ M', f_X5_number (iz (n : Int)) M = some (iz (dval ls n p 0), M') ∧ gi M' 124 3 = iz ((p + n : Nat) : Int) ∧ kC M M' := by
  obtain ⟨M', r1, r2, r3⟩ := c_numbL hl hn n FU 0 p 0 M (by omega) (by rw [FU_eq]; omega) (by omega) hs hp
  have r1' : lq3 (f_X5_number_L4 (iz (n : Int))) FU (0 : Int32) (0 : Int32) M = _ := r1
  refine ⟨M', ?_, r2, r3⟩
  unfold f_X5_number
  rw [r1', b_s2]
