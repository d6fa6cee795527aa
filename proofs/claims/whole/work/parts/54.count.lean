/-! count -/
theorem letters_same {M : Mem} {n : Nat} (hn : n ≤ 16) (h3 : gi M 3 3 = iz (n : Int)) (h9 : gi M 139 9 = iz (n : Int)) (he : ∀ w, w < n → gi M 5 w = gi M 142 w) : ∀ (d f i : Nat) (x : Int32), i + d = n → d < f → ∃ r, lq2 (f_X7_letterCount_L4 3 M) f x (iz (i : Int)) = some r ∧ lq2 (f_X9_allLetters_L4 M) f x (iz (i : Int)) = some r := by
  intro d
  induction d with
  | zero =>
    intro f i x h1 h2
    obtain ⟨f, rfl⟩ : ∃ g, f = g + 1 := ⟨f - 1, by omega⟩
    have c1 : iz (n : Int) ≤ iz (i : Int) := (iz_cnt (by omega) (by omega)).2.2.mpr (by omega)
    refine ⟨x, ?_, ?_⟩
    · rw [lq2_s]; unfold f_X7_letterCount_L4; rw [h3, if_pos c1]
    · rw [lq2_s]; unfold f_X9_allLetters_L4; rw [h9, if_pos c1]
  | succ d ih =>
    intro f i x h1 h2
    obtain ⟨f, rfl⟩ : ∃ g, f = g + 1 := ⟨f - 1, by omega⟩
    have c1 : ¬ iz (n : Int) ≤ iz (i : Int) := fun q => by have := (iz_cnt (n := n) (m := i) (by omega) (by omega)).2.2.mp q; omega
    have al : alen (3 + 2) = 16 := rfl
    obtain ⟨r, r1, r2⟩ := ih f (i + 1) (x + gi M 142 i) (by omega) (by omega)
    refine ⟨r, ?_, ?_⟩
    · rw [lq2_s]
      generalize lq2 (f_X7_letterCount_L4 3 M) f = K at r1 ⊢
      unfold f_X7_letterCount_L4
      rw [h3, if_neg c1, c_at al (by omega) (by omega), b_s1, nmq_q, nmq_q, iz_s, he i (by omega)]; exact r1
    · rw [lq2_s]
      generalize lq2 (f_X9_allLetters_L4 M) f = K at r2 ⊢
      unfold f_X9_allLetters_L4
      rw [h9, if_neg c1, g_t (inB_n (by omega) (by omega)), nmq_q, nmq_q, iz_s, clN (by omega)]; exact r2
theorem op_count {M : Mem} (hI : Inv M) (p : Int32) : ∃ r, f_X8_count p M = some r ∧ f_X9_count p M = some r := by
  obtain ⟨now, img, st, ct, hist, ls, rw_, R, hg, hC, hM⟩ := hI
  obtain ⟨z, z1, z2, rfl⟩ := iz_ex p
  have ein : f_X9_isIn (iz z) (11 : Int32) (16 : Int32) = _ := m_isIn (z := z) (lo := 11) (hi := 16) z1 z2 (by omega) (by omega) (by omega) (by omega)
  by_cases q : 11 ≤ z ∧ z ≤ 16
  · rw [if_pos q] at ein
    obtain ⟨v, rfl⟩ : ∃ v : Nat, z = ((v + 10 : Nat) : Int) := ⟨(z - 10).toNat, by omega⟩
    have hv : v < 7 := by omega
    have e10 : iz ((v + 10 : Nat) : Int) - (10 : Int32) = iz (v : Int) := by
      rw [show (10 : Int32) = iz (10 : Int) from rfl, iz_sub]; congr 1; omega
    have c1 : ¬ iz ((v + 10 : Nat) : Int) < (11 : Int32) := nlt_iz (b := 11) z1 z2 (by omega) (by omega) (by omega)
    have c2 : ¬ (16 : Int32) < iz ((v + 10 : Nat) : Int) := nlt_iz (a := 16) (by omega) (by omega) z1 z2 (by omega)
    have al : alen 138 = 7 := rfl
    refine ⟨R v, ?_, ?_⟩
    · simp (decide := true) only [f_X8_count, jq, c1, c2, if_false, e10, b1_id]
      rw [c_at al (by omega) hv, hC.2.2.2.2.2.2 v hv]
    · unfold f_X9_count
      rw [ein, b_s1, if_neg (by decide), e10, g_t (inB_n hv (by omega)), clN (by omega), hM.2.2.2.2.2.2 v hv]
  · rw [if_neg q] at ein
    have hf : f_X8_count (iz z) M = (if iz z = (0 : Int32) then some (gi M 3 3) else if iz z = (1 : Int32) then some (gi M 7 4) else if iz z = (2 : Int32) then f_X7_letterCount 3 M else if iz z = (3 : Int32) then some (gi M 1 3) else if iz z = (4 : Int32) then some (gi M 1 11) else if iz z = (5 : Int32) then some (gi M 34 2) else if iz z = (6 : Int32) then some (gi M 0 8) else if iz z = (7 : Int32) then some (gi M 124 1) else some (-9 : Int32)) := by
      by_cases q1 : z < 11
      · have c1 : iz z < (11 : Int32) := lt_iz (b := 11) z1 z2 (by omega) (by omega) q1
        simp only [f_X8_count, jq, c1, if_true, b1_id]
      · have c1 : ¬ iz z < (11 : Int32) := nlt_iz (b := 11) z1 z2 (by omega) (by omega) q1
        have c2 : (16 : Int32) < iz z := lt_iz (a := 16) (by omega) (by omega) z1 z2 (by omega)
        simp only [f_X8_count, jq, c1, c2, if_true, if_false, b1_id]
    have hG : f_X9_count (iz z) M = (if iz z = (0 : Int32) then some (gi M 139 9) else if iz z = (1 : Int32) then some (gi M 139 10) else if iz z = (2 : Int32) then f_X9_allLetters M else if iz z = (3 : Int32) then some (gi M 139 11) else if iz z = (4 : Int32) then some (gi M 139 19) else if iz z = (5 : Int32) then some (gi M 139 46) else if iz z = (6 : Int32) then some (gi M 139 52) else if iz z = (7 : Int32) then some (gi M 139 36) else some (-9 : Int32)) := by
      simp (decide := true) only [f_X9_count, ein, b_s1, if_true, b1_id]
    have k0 : gi M 139 9 = gi M 3 3 := hM.1.count.trans hC.1.1.1.symm
    have k1 : gi M 139 10 = gi M 7 4 := by
      have := hM.1.2.2.1
      rw [rd_fld (j := 10) _ (by omega) (by omega)] at this
      exact this.trans hC.1.2.1.1.symm
    have k3 : gi M 139 11 = gi M 1 3 := (hM.1.at' (i := 0) (by omega)).trans (hC.1.at' (i := 0) (by omega)).symm
    have k4 : gi M 139 19 = gi M 1 11 := (hM.1.at' (i := 8) (by omega)).trans (hC.1.at' (i := 8) (by omega)).symm
    have k5 : gi M 139 46 = gi M 34 2 := hM.2.2.2.1.2.1.trans hC.2.2.2.1.2.1.symm
    have k6 : gi M 139 52 = gi M 0 8 := hM.2.2.2.2.2.1.1.trans hC.2.2.2.2.2.1.1.symm
    have k7 : gi M 139 36 = gi M 124 1 := hM.2.2.2.2.1.1.trans hC.2.2.2.2.1.1.symm
    obtain ⟨r, r1, r2⟩ : ∃ r, f_X7_letterCount 3 M = some r ∧ f_X9_allLetters M = some r := by
      obtain ⟨r, r1, r2⟩ := letters_same (M := M) hg.1.1.1 hC.1.1.1 hM.1.count (fun w hw => by
        obtain ⟨_, a2, _⟩ := hC.1.1.2 w _ (List.getElem?_eq_getElem hw)
        obtain ⟨b1, _, _⟩ := hM.1.2.1 w _ (List.getElem?_eq_getElem hw)
        have h16 := hg.1.1.1
        rw [rd_in M (k := 142) (n := 16) (c := 8) (by omega) w (by omega)] at b1
        exact a2.trans b1.symm) now.1.length FU 0 (0 : Int32) (by omega) (by rw [FU_eq]; have := hg.1.1.1; omega)
      refine ⟨r, ?_, ?_⟩
      · unfold f_X7_letterCount; rw [b1_id]; exact r1
      · unfold f_X9_allLetters; rw [b1_id]; exact r2
    rw [hf, hG, k0, k1, k3, k4, k5, k6, k7, r1, r2]
    (repeat' split) <;> exact ⟨_, rfl, rfl⟩
