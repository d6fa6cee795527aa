/-! values, word: the calls -/
theorem op_values {M : Mem} (hI : Inv M) (p p' : Int32) : both M (f_X8_values p p') (f_X9_values p p') := by
  have hI' := hI
  obtain ⟨now, img, st, ct, hist, ls, rw_, R, hg, hC, hM⟩ := hI
  obtain ⟨z, z1, z2, rfl⟩ := iz_ex p
  obtain ⟨y, y1, y2, rfl⟩ := iz_ex p'
  have hf1 := c_has hC.1.1.1 hg.1.1.1 z1 z2
  have hg1 : ∀ M', gi M' 139 9 = gi M 139 9 → f_X9_isWord (iz z) M' = _ := fun M' e => m_isWord (e.trans hM.1.count) hg.1.1.1 z1 z2
  have kn : ∀ M', f_X9_no (-1 : Int32) M' = f_X9_no (iz (-((1 : Nat) : Int))) M' := fun _ => rfl
  have kc : ∀ M', f_X8_refuse (-1 : Int32) M' = f_X8_refuse (iz (-((1 : Nat) : Int))) M' := fun _ => rfl
  by_cases q : 0 ≤ z ∧ z < now.1.length
  case neg =>
    rw [if_neg q] at hf1
    refine both_no' hI' (v := 1) (by omega) ?_ (fun M' hs => ?_)
    · simp (decide := true) only [f_X8_values, jq, hf1, b_s1, if_true, b2_id]; exact kc _
    · have h1 := hg1 M' (by rw [(hs 139 (by omega)).1])
      rw [if_neg q] at h1
      simp (decide := true) only [f_X9_values, jq, h1, b_s1, if_true, b2_id]; exact kn _
  rw [if_pos q] at hf1
  obtain ⟨w, rfl⟩ : ∃ w : Nat, z = (w : Int) := ⟨z.toNat, by omega⟩
  have hw : now.1[w]? = some now.1[w] := List.getElem?_eq_getElem (by omega)
  obtain ⟨c1, c2, c3, hw16, hl12⟩ := c_len (p := 1) (Or.inl rfl) hC.1 hg.1.1 hw
  have c1 : f_X7_lengthOf 3 (iz (w : Int)) M = _ := c1
  have c2 : f_X7_spellingOf 3 (iz (w : Int)) M = _ := c2
  obtain ⟨-, -, w1, w2, w3⟩ := hM.1.word hg.1.1 hw
  have okq := hg.1.1.2.1 _ (List.mem_of_getElem? hw)
  have hcv := fun (j : Nat) (hj : j ≤ 12) => m_val hg.1.1 hM.1 hw (p := j) hj
  generalize now.1[w] = qw at *
  have ein : ∀ M', gi M' 142 w = gi M 142 w → f_X9_isIn (iz y) (0 : Int32) (gi M' 142 w) = some (if 0 ≤ y ∧ y ≤ (qw.1.length : Int) then 1 else 0) := fun M' e => by
    rw [e, w1]
    exact m_isIn (z := y) (lo := 0) (hi := (qw.1.length : Int)) y1 y2 (by omega) (by omega) (by omega) (by omega)
  by_cases q2 : 0 ≤ y ∧ y ≤ qw.1.length
  case neg =>
    refine both_no' hI' (v := 1) (by omega) ?_ (fun M' hs => ?_)
    · by_cases q3 : y < 0
      · have c4 : iz y < 0 := lt_iz (b := 0) y1 y2 (by omega) (by omega) q3
        simp (decide := true) only [f_X8_values, jq, hf1, b_s1, if_true, if_false, c4, b2_id]; exact kc _
      · have c4 : ¬ iz y < 0 := nlt_iz (b := 0) y1 y2 (by omega) (by omega) q3
        have c5 : ¬ iz y ≤ iz (qw.1.length : Int) := nle_iz y1 y2 (by omega) (by omega) (by omega)
        simp (decide := true) only [f_X8_values, jq, hf1, c1, b_s1, if_false, c4, c5, b2_id]; exact kc _
    · have h1 := hg1 M' (by rw [(hs 139 (by omega)).1])
      rw [if_pos q] at h1
      have h2 := ein M' (by rw [(hs 142 (by omega)).1])
      rw [if_neg q2] at h2
      unfold f_X9_values jq
      rw [h1, b_s1]
      show (if (1 : Int32) = 0 then _ else _) = _
      rw [if_neg (by decide), g_t (inB_n hw16 (by omega)), clN (by omega), h2, b_s1, if_pos rfl, b2_id]; exact kn _
  obtain ⟨j, rfl⟩ : ∃ j : Nat, y = (j : Int) := ⟨y.toNat, by omega⟩
  have a9 : alen (7 + 2) = 8 := rfl
  have a10 : alen (7 + 3) = 8 := rfl
  have a11 : alen (7 + 4) = 8 := rfl
  refine ask hI' (r := iz ((valF qw.1 j now.2.1 0 : Nat) : Int)) ?_ ?_
  · have c4 : ¬ iz (j : Int) < 0 := not_neg j (by omega)
    have c5 : iz (j : Int) ≤ iz (qw.1.length : Int) := le_cnt (by omega) (by omega)
    have e1 : f_X4_greatestValue 7 (pk qw.1) (iz (j : Int)) M = _ := (c_val hC.1.2.1 a9 a10 a11 hg.1.1.2.2.1 hg.1.1.2.2.2.1 hl12 okq.1.2.2 (p := j) (by omega)).1
    simp (decide := true) only [f_X8_values, jq, hf1, c1, c2, b_s1, if_true, if_false, c4, c5, e1]
  · have h1 := hg1 M rfl
    rw [if_pos q] at h1
    have h2 := ein M rfl
    rw [if_pos (show (0 : Int) ≤ (j : Int) ∧ (j : Int) ≤ (qw.1.length : Int) by omega)] at h2
    unfold f_X9_values jq
    rw [h1, b_s1]
    show (if (1 : Int32) = 0 then _ else _) = _
    rw [if_neg (by decide), g_t (inB_n hw16 (by omega)), clN (by omega), h2, b_s1, if_neg (by decide), hcv j (by omega), b_s1]
theorem op_word {M : Mem} (hI : Inv M) (p p' : Int32) : both M (f_X8_word p p') (f_X9_word p p') := by
  have hI' := hI
  obtain ⟨now, img, st, ct, hist, ls, rw_, R, hg, hC, hM⟩ := hI
  obtain ⟨z, z1, z2, rfl⟩ := iz_ex p
  have hf1 := c_has hC.1.1.1 hg.1.1.1 z1 z2
  have hg1 : ∀ M', gi M' 139 9 = gi M 139 9 → f_X9_isWord (iz z) M' = _ := fun M' e => m_isWord (e.trans hM.1.count) hg.1.1.1 z1 z2
  have kn : ∀ M', f_X9_no (-1 : Int32) M' = f_X9_no (iz (-((1 : Nat) : Int))) M' := fun _ => rfl
  have kc : ∀ M', f_X8_refuse (-1 : Int32) M' = f_X8_refuse (iz (-((1 : Nat) : Int))) M' := fun _ => rfl
  have kn2 : ∀ M', f_X9_no (-2 : Int32) M' = f_X9_no (iz (-((2 : Nat) : Int))) M' := fun _ => rfl
  have kc2 : ∀ M', f_X8_refuse (-2 : Int32) M' = f_X8_refuse (iz (-((2 : Nat) : Int))) M' := fun _ => rfl
  by_cases q : 0 ≤ z ∧ z < now.1.length
  case neg =>
    rw [if_neg q] at hf1
    refine both_no' hI' (v := 1) (by omega) ?_ (fun M' hs => ?_)
    · simp (decide := true) only [f_X8_word, hf1, b_s1, if_true, b2_id]; exact kc _
    · have h1 := hg1 M' (by rw [(hs 139 (by omega)).1])
      rw [if_neg q] at h1
      simp (decide := true) only [f_X9_word, h1, b_s1, if_true, b2_id]; exact kn _
  rw [if_pos q] at hf1
  obtain ⟨w, rfl⟩ : ∃ w : Nat, z = (w : Int) := ⟨z.toNat, by omega⟩
  have hw : now.1[w]? = some now.1[w] := List.getElem?_eq_getElem (by omega)
  obtain ⟨c1, c2, c3, hw16, hl12⟩ := c_len (p := 1) (Or.inl rfl) hC.1 hg.1.1 hw
  have c1 : f_X7_lengthOf 3 (iz (w : Int)) M = _ := c1
  have c3 : f_X7_isForced 3 (iz (w : Int)) M = _ := c3
  obtain ⟨-, -, w1, w2, w3⟩ := hM.1.word hg.1.1 hw
  have okq := hg.1.1.2.1 _ (List.mem_of_getElem? hw)
  have hh : f_X3_hyphenPlaces 1 (iz (w : Int)) M = _ := c_hy (Or.inl rfl) hC.1 hg.1.1 hw
  have hp := m_pl hg.1.1 hM.1 hw
  obtain ⟨rw1, rw2, rw3⟩ := width_same hC.1 hM.1 hg.1.1 hw
  have hsm := hyB_small (v := now) hl12
  have g0 := hg1 M rfl
  rw [if_pos q] at g0
  generalize now.1[w] = qw at *
  by_cases r0 : p' = (0 : Int32)
  · refine ask hI' (r := iz (qw.1.length : Int)) ?_ ?_
    · simp (decide := true) only [f_X8_word, hf1, c1, b_s1, r0, if_true, if_false]
    · simp (decide := true) only [f_X9_word, g0, b_s1, r0, if_true, if_false]
      rw [g_t (inB_n hw16 (by omega)), clN (by omega), w1]
  by_cases r1 : p' = (1 : Int32)
  · refine ask hI' (r := rw1) ?_ ?_
    · simp (decide := true) only [f_X8_word, hf1, rw2, b_s1, r1, if_true, if_false]
    · simp (decide := true) only [f_X9_word, g0, rw3, b_s1, r1, if_true, if_false]
  by_cases r2 : p' = (2 : Int32)
  · refine ask hI' (r := iz (qw.2 : Int)) ?_ ?_
    · have hq2 := okq.2
      simp (decide := true) only [f_X8_word, hf1, c3, b_s1, r2, if_true, if_false]
      by_cases r : qw.2 = 1
      · rw [if_pos r, if_neg (by decide), r]; rfl
      · rw [if_neg r, if_pos rfl, show qw.2 = 0 by omega]; rfl
    · simp (decide := true) only [f_X9_word, g0, b_s1, r2, if_true, if_false]
      rw [g_t (inB_n hw16 (by omega)), clN (by omega), w3]
  by_cases r3 : p' = (3 : Int32)
  · obtain ⟨y, y1, y2⟩ := bits_same ⟨_, hsm⟩
    have y1 : f_J6_bitCount_0f7a4 (iz ((hyB (brk now qw.1) qw.1.length : Nat) : Int)) = _ := y1
    have y2 : f_X9_bits (iz ((hyB (brk now qw.1) qw.1.length : Nat) : Int)) = _ := y2
    refine ask hI' (r := iz ((y.val : Nat) : Int) + (1 : Int32)) ?_ ?_
    · simp (decide := true) only [f_X8_word, hf1, hh, y1, b_s1, r3, if_true, if_false]
      rw [Int32.add_comm]
    · simp (decide := true) only [f_X9_word, g0, hp, y2, b_s1, r3, if_true, if_false]
  by_cases r4 : p' = (4 : Int32)
  · refine ask hI' (r := iz ((hyB (brk now qw.1) qw.1.length : Nat) : Int)) ?_ ?_
    · simp (decide := true) only [f_X8_word, hf1, hh, b_s1, r4, if_true, if_false]
    · simp (decide := true) only [f_X9_word, g0, hp, b_s1, r4, if_true, if_false]
  refine both_no' hI' (v := 2) (by omega) ?_ (fun M' hs => ?_)
  · simp (decide := true) only [f_X8_word, hf1, b_s1, r0, r1, r2, r3, r4, if_true, if_false, b2_id]; exact kc2 _
  · have h1 := hg1 M' (by rw [(hs 139 (by omega)).1])
    rw [if_pos q] at h1
    simp (decide := true) only [f_X9_word, h1, b_s1, r0, r1, r2, r3, r4, if_true, if_false, b2_id]; exact kn2 _
