/-! the reference's numbers kept, and back -/
theorem lq2_s {A B R : Type} (F : (A → B → Option R) → A → B → Option R) (n : Nat) (a : A) (b : B) : lq2 F (n + 1) a b = F (lq2 F n) a b := rfl
theorem m_save {k1 n : Nat} (hk : 141 ≤ k1 ∧ k1 < 149) (hn : alen k1 = n) (hn2 : n ≤ 200) : ∀ (d f i c : Nat) (M : Mem), i + d = n → d < f → c + d ≤ 3250 → gi M 139 43 = 1 → gi M 139 44 = iz (c : Int) →
    ∃ M', lq2 (f_X9_passes_L2 k1) f (iz (i : Int)) M = some M' ∧ (∀ x, gi M' 163 x = if c ≤ x ∧ x < c + d then gi M k1 (i + (x - c)) else gi M 163 x) ∧ gi M' 139 44 = iz ((c + d : Nat) : Int) ∧ (∀ j, j ≠ 44 → gi M' 139 j = gi M 139 j) ∧ sameOn (fun k => k ≠ 139 ∧ k ≠ 163) M M' := by
  intro d
  induction d with
  | zero =>
    intro f i c M h1 h2 h3 h4 h5
    obtain ⟨f, rfl⟩ : ∃ g, f = g + 1 := ⟨f - 1, by omega⟩
    have c1 : Int32.ofNat n ≤ iz (i : Int) := by rw [iz_nat]; exact (iz_cnt (n := n) (m := i) (by omega) (by omega)).2.2.mpr (by omega)
    refine ⟨M, ?_, fun x => by rw [if_neg (by omega)], h5, fun _ _ => rfl, sameOn.rf⟩
    rw [lq2_s]
    simp only [f_X9_passes_L2, hn, c1, if_true]
  | succ d ih =>
    intro f i c M h1 h2 h3 h4 h5
    obtain ⟨f, rfl⟩ : ∃ g, f = g + 1 := ⟨f - 1, by omega⟩
    have c1 : ¬ Int32.ofNat n ≤ iz (i : Int) := not_le_ (by omega) (by omega)
    have c2 : ¬ gi M 139 43 = 0 := by rw [h4]; decide
    obtain ⟨M1, hM1⟩ : ∃ M1, M1 = si (si M 163 c (gi M k1 i)) 139 44 (iz ((c + 1 : Nat) : Int)) := ⟨_, rfl⟩
    have hs1 : sameOn (fun k => k ≠ 139 ∧ k ≠ 163) M M1 := by rw [hM1]; exact (sameOn.si (by omega)).tr (sameOn.si (by omega))
    have hj : ∀ j, j ≠ 44 → gi M1 139 j = gi M 139 j := fun j hj => by rw [hM1, gi_si, if_neg (by omega), gi_si, if_neg (by omega)]
    have hx : ∀ x, gi M1 163 x = if x = c then gi M k1 i else gi M 163 x := fun x => by
      rw [hM1, gi_si, if_neg (by omega), gi_si]
      by_cases q : x = c
      · rw [if_pos ⟨rfl, q⟩, if_pos q]
      · rw [if_neg (by omega), if_neg q]
    obtain ⟨M', e', r1, r2, r3, r4⟩ := ih f (i + 1) (c + 1) M1 (by omega) (by omega) (by omega) (by rw [hj 43 (by omega)]; exact h4) (by rw [hM1, gi_si, if_pos ⟨rfl, rfl⟩])
    refine ⟨M', ?_, fun x => ?_, by rw [r2]; congr 2; omega, fun j q => (r3 j q).trans (hj j q), hs1.tr r4⟩
    · rw [lq2_s]
      simp only [f_X9_passes_L2, hn, c1, c2, if_false, nmq]
      rw [g_t (inB_n (by omega) (by omega)), h5, g_t (inB_n (by omega) (by omega)), clN (by omega), clN (by omega), b_s1, iz_s]
      have : gi (si M 163 c (gi M k1 i)) 139 44 = iz (c : Int) := h5
      rw [this, iz_s, ← hM1]
      exact e'
    · rw [r1 x]
      by_cases q1 : c + 1 ≤ x ∧ x < c + 1 + d
      · rw [if_pos q1, if_pos (by omega), (hs1 k1 ⟨by omega, by omega⟩).1]; congr 1; omega
      · rw [if_neg q1, hx x]
        by_cases q2 : x = c
        · rw [if_pos q2, if_pos (by omega)]; congr 1; omega
        · rw [if_neg q2, if_neg (by omega)]
theorem m_load {k1 n : Nat} (hk : 141 ≤ k1 ∧ k1 < 149) (hn : alen k1 = n) (hn2 : n ≤ 200) : ∀ (d f i c : Nat) (M : Mem), i + d = n → d < f → c + d ≤ 3250 → gi M 139 43 = 0 → gi M 139 44 = iz (c : Int) →
    ∃ M', lq2 (f_X9_passes_L2 k1) f (iz (i : Int)) M = some M' ∧ (∀ x, gi M' k1 x = if i ≤ x ∧ x < i + d then gi M 163 (c + (x - i)) else gi M k1 x) ∧ gi M' 139 44 = iz ((c + d : Nat) : Int) ∧ (∀ j, j ≠ 44 → gi M' 139 j = gi M 139 j) ∧ sameOn (fun k => k ≠ 139 ∧ k ≠ k1) M M' := by
  intro d
  induction d with
  | zero =>
    intro f i c M h1 h2 h3 h4 h5
    obtain ⟨f, rfl⟩ : ∃ g, f = g + 1 := ⟨f - 1, by omega⟩
    have c1 : Int32.ofNat n ≤ iz (i : Int) := by rw [iz_nat]; exact (iz_cnt (n := n) (m := i) (by omega) (by omega)).2.2.mpr (by omega)
    refine ⟨M, ?_, fun x => by rw [if_neg (by omega)], h5, fun _ _ => rfl, sameOn.rf⟩
    rw [lq2_s]
    simp only [f_X9_passes_L2, hn, c1, if_true]
  | succ d ih =>
    intro f i c M h1 h2 h3 h4 h5
    obtain ⟨f, rfl⟩ : ∃ g, f = g + 1 := ⟨f - 1, by omega⟩
    have c1 : ¬ Int32.ofNat n ≤ iz (i : Int) := not_le_ (by omega) (by omega)
    obtain ⟨M1, hM1⟩ : ∃ M1, M1 = si (si M k1 i (gi M 163 c)) 139 44 (iz ((c + 1 : Nat) : Int)) := ⟨_, rfl⟩
    have hs1 : sameOn (fun k => k ≠ 139 ∧ k ≠ k1) M M1 := by rw [hM1]; exact (sameOn.si (by omega)).tr (sameOn.si (by omega))
    have hj : ∀ j, j ≠ 44 → gi M1 139 j = gi M 139 j := fun j hj => by rw [hM1, gi_si, if_neg (by omega), gi_si, if_neg (by omega)]
    have hx : ∀ x, gi M1 k1 x = if x = i then gi M 163 c else gi M k1 x := fun x => by
      rw [hM1, gi_si, if_neg (by omega), gi_si]
      by_cases q : x = i
      · rw [if_pos ⟨rfl, q⟩, if_pos q]
      · rw [if_neg (by omega), if_neg q]
    obtain ⟨M', e', r1, r2, r3, r4⟩ := ih f (i + 1) (c + 1) M1 (by omega) (by omega) (by omega) (by rw [hj 43 (by omega)]; exact h4) (by rw [hM1, gi_si, if_pos ⟨rfl, rfl⟩])
    refine ⟨M', ?_, fun x => ?_, by rw [r2]; congr 2; omega, fun j q => (r3 j q).trans (hj j q), hs1.tr r4⟩
    · rw [lq2_s]
      simp only [f_X9_passes_L2, hn, c1, h4, if_true, if_false, nmq]
      rw [h5, g_t (inB_n (by omega) (by omega)), g_t (inB_n (by omega) (by omega)), clN (by omega), clN (by omega), b_s1, iz_s]
      have : gi (si M k1 i (gi M 163 c)) 139 44 = iz (c : Int) := by rw [gi_si, if_neg (by omega)]; exact h5
      rw [this, iz_s, ← hM1]
      exact e'
    · rw [r1 x]
      by_cases q1 : i + 1 ≤ x ∧ x < i + 1 + d
      · rw [if_pos q1, if_pos (by omega), (hs1 163 ⟨by omega, by omega⟩).1]; congr 1; omega
      · rw [if_neg q1, hx x]
        by_cases q2 : x = i
        · rw [if_pos q2, if_pos (by omega)]; congr 1; omega
        · rw [if_neg q2, if_neg (by omega)]
