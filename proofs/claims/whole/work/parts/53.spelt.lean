/-! spelt -/
theorem ask {M : Mem} (h : Inv M) {f g : Mem → Option (Int32 × Mem)} {r : Int32} (hf : f M = some (r, M)) (hg : g M = some (r, M)) : both M f g := ⟨r, M, M, hf, hg, h⟩
theorem op_spelt {M : Mem} (hI : Inv M) (p p' : Int32) : both M (f_X8_spelt p p') (f_X9_spelt p p') := by
  have hI' := hI
  obtain ⟨now, img, st, ct, hist, ls, rw_, R, hg, hC, hM⟩ := hI
  obtain ⟨z, z1, z2, rfl⟩ := iz_ex p
  obtain ⟨y, y1, y2, rfl⟩ := iz_ex p'
  have hf1 := c_has hC.1.1.1 hg.1.1.1 z1 z2
  have hg1 : ∀ M', gi M' 139 9 = gi M 139 9 → f_X9_isWord (iz z) M' = _ := fun M' e => m_isWord (e.trans hM.1.count) hg.1.1.1 z1 z2
  have kn : ∀ M', f_X9_no (-1 : Int32) M' = f_X9_no (iz (-((1 : Nat) : Int))) M' := fun _ => rfl
  have kc : ∀ M', f_X8_refuse (-1 : Int32) M' = f_X8_refuse (iz (-((1 : Nat) : Int))) M' := fun _ => rfl
  by_cases q : 0 ≤ z ∧ z < now.1.length
  case neg =>
    rw [if_neg q] at hf1
    refine both_no' hI' (v := 1) (by omega) ?_ (fun M' hs => ?_)
    · simp (decide := true) only [f_X8_spelt, jq, hf1, b_s1, if_true, b2_id]; exact kc _
    · have h1 := hg1 M' (by rw [(hs 139 (by omega)).1])
      rw [if_neg q] at h1
      simp (decide := true) only [f_X9_spelt, jq, h1, b_s1, if_true, b2_id]; exact kn _
  rw [if_pos q] at hf1
  obtain ⟨w, rfl⟩ : ∃ w : Nat, z = (w : Int) := ⟨z.toNat, by omega⟩
  have hw : now.1[w]? = some now.1[w] := List.getElem?_eq_getElem (by omega)
  have hw16 : w < 16 := by have := hg.1.1.1; omega
  obtain ⟨a1, a2, a3⟩ := hC.1.1.2 w _ hw
  obtain ⟨b1, b2, b3⟩ := hM.1.2.1 w _ hw
  have okq := hg.1.1.2.1 _ (List.mem_of_getElem? hw)
  generalize now.1[w] = qw at *
  have al : alen 5 = 16 := rfl
  have el : f_X7_lengthOf 3 (iz (w : Int)) M = some (iz (qw.1.length : Int)) := by
    unfold f_X7_lengthOf
    show bq1 (f_X8_at 5 _ _) _ = _
    rw [c_at al (by omega) hw16, b_s1, a2]
  have em : gi M 142 w = iz (qw.1.length : Int) := by rw [← rd_in M (k := 142) (n := 16) (c := 8) (by omega) w hw16]; exact b1
  have hlq : qw.1.length ≤ 12 := okq.1.2.1
  have ein : ∀ M', gi M' 142 w = gi M 142 w → f_X9_isIn (iz y) (0 : Int32) (gi M' 142 w - (1 : Int32)) = some (if 0 ≤ y ∧ y ≤ (qw.1.length : Int) - 1 then 1 else 0) := fun M' e => by
    rw [e, em, show (1 : Int32) = iz (1 : Int) from rfl, iz_sub]
    exact m_isIn (z := y) (lo := 0) (hi := (qw.1.length : Int) - 1) y1 y2 (by omega) (by omega) (by omega) (by omega)
  by_cases q2 : 0 ≤ y ∧ y < qw.1.length
  case neg =>
    refine both_no' hI' (v := 1) (by omega) ?_ (fun M' hs => ?_)
    · by_cases q3 : y < 0
      · have c1 : iz y < 0 := lt_iz (b := 0) y1 y2 (by omega) (by omega) q3
        simp (decide := true) only [f_X8_spelt, jq, hf1, b_s1, if_true, if_false, c1, b2_id]; exact kc _
      · have c1 : ¬ iz y < 0 := nlt_iz (b := 0) y1 y2 (by omega) (by omega) q3
        have c2 : ¬ iz y < iz (qw.1.length : Int) := nlt_iz y1 y2 (by omega) (by omega) (by omega)
        simp (decide := true) only [f_X8_spelt, jq, hf1, el, b_s1, if_false, c1, c2, b2_id]; exact kc _
    · have h1 := hg1 M' (by rw [(hs 139 (by omega)).1])
      rw [if_pos q] at h1
      have h2 := ein M' (by rw [(hs 142 (by omega)).1])
      rw [if_neg (show ¬ (0 ≤ y ∧ y ≤ (qw.1.length : Int) - 1) by omega)] at h2
      unfold f_X9_spelt jq
      rw [h1, b_s1]
      show (if (1 : Int32) = 0 then _ else _) = _
      rw [if_neg (by decide), g_t (inB_n hw16 (by omega)), clN (by omega), h2, b_s1, if_pos rfl, b2_id]; exact kn _
  obtain ⟨j, rfl⟩ : ∃ j : Nat, y = (j : Int) := ⟨y.toNat, by omega⟩
  have hj : qw.1[j]? = some qw.1[j] := List.getElem?_eq_getElem (by omega)
  refine ask hI' (r := iz ((qw.1[j] : Nat) : Int)) ?_ ?_
  · have c1 : ¬ iz (j : Int) < 0 := not_neg j (by omega)
    have c2 : iz (j : Int) < iz (qw.1.length : Int) := (iz_cnt (by omega) (by omega)).1.mpr (by omega)
    have e1 : f_X7_spellingOf 3 (iz (w : Int)) M = some (pk qw.1) := by rw [c_spell hw16]; exact congrArg some a1
    have e2 := letterIn_pk hlq okq.1.2.2 hj
    simp (decide := true) only [f_X8_spelt, jq, hf1, el, b_s1, if_true, if_false, c1, c2, e1, e2]
  · have h1 := hg1 M rfl
    rw [if_pos q] at h1
    have h2 := ein M rfl
    rw [if_pos (show (0 : Int) ≤ (j : Int) ∧ (j : Int) ≤ (qw.1.length : Int) - 1 by omega)] at h2
    have i2 : (12 : Int32) * iz (w : Int) + iz (j : Int) = iz ((12 * w + j : Nat) : Int) := by
      rw [show (12 : Int32) = iz (12 : Int) from rfl, iz_mul, iz_add]; congr 1
    unfold f_X9_spelt jq
    have e4 : gi M 143 (12 * w + j) = iz ((qw.1[j] : Nat) : Int) := by
      rw [← rd_in M (k := 143) (n := 192) (c := 24) (by omega) (12 * w + j) (by omega)]; exact b2 j _ hj
    rw [h1, b_s1]
    show (if (1 : Int32) = 0 then _ else _) = _
    rw [if_neg (by decide), g_t (inB_n hw16 (by omega)), clN (by omega), h2, b_s1, if_neg (by decide), i2, g_t (inB_n (by omega) (by omega)), clN (by omega), e4]
