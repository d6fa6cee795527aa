/-! pattern -/
theorem c_phas {M : Mem} {k : Nat} {n : Nat} (h : gi M k 4 = iz (n : Int)) (hn : n ≤ 16) {z : Int} (h1 : -2147483648 ≤ z) (h2 : z < 2147483648) : f_X4_has k (iz z) M = some (if 0 ≤ z ∧ z < n then 1 else 0) := by
  unfold f_X4_has
  rw [h]
  by_cases q1 : z < 0
  · rw [if_pos (show iz z < 0 from lt_iz (b := 0) h1 h2 (by omega) (by omega) q1), if_neg (by omega)]
  rw [if_neg (show ¬ iz z < 0 from nlt_iz (b := 0) h1 h2 (by omega) (by omega) q1)]
  by_cases q2 : (n : Int) ≤ z
  · rw [if_pos (le_iz (by omega) (by omega) h1 h2 q2), if_neg (by omega)]
  · rw [if_neg (nle_iz (by omega) (by omega) h1 h2 q2), if_pos (by omega)]
theorem mPar.pcount {M : Mem} {v : PV} (h : mPar (rdNow M) v) : gi M 139 10 = iz v.2.1.length := by
  rw [← h.2.2.1, rd_fld (j := 10) _ (by omega) (by omega)]
theorem m_isPat {M : Mem} {n : Nat} (h : gi M 139 10 = iz (n : Int)) (hn : n ≤ 16) {z : Int} (h1 : -2147483648 ≤ z) (h2 : z < 2147483648) : f_X9_isIn (iz z) (0 : Int32) ((gi M 139 10) - (1 : Int32)) = some (if 0 ≤ z ∧ z < n then 1 else 0) := by
  have e : f_X9_isIn (iz z) (0 : Int32) (gi M 139 10 - 1) = some (if 0 ≤ z ∧ z ≤ (n : Int) - 1 then 1 else 0) := by
    rw [h, show (1 : Int32) = iz (1 : Int) from rfl, iz_sub]
    exact m_isIn (z := z) (lo := 0) (hi := (n : Int) - 1) h1 h2 (by omega) (by omega) (by omega) (by omega)
  rw [e]
  by_cases q : 0 ≤ z ∧ z < n
  · rw [if_pos q, if_pos (show 0 ≤ z ∧ z ≤ (n : Int) - 1 by omega)]
  · rw [if_neg q, if_neg (show ¬ (0 ≤ z ∧ z ≤ (n : Int) - 1) by omega)]
theorem op_pattern {M : Mem} (hI : Inv M) (p p' : Int32) : both M (f_X8_pattern p p') (f_X9_pattern p p') := by
  have hI' := hI
  obtain ⟨now, img, st, ct, hist, ls, rw_, R, hg, hC, hM⟩ := hI
  obtain ⟨z, z1, z2, rfl⟩ := iz_ex p
  have h8 := hg.1.1.2.2.1
  have hf1 : f_X4_has 7 (iz z) M = _ := c_phas hC.1.2.1.1 (by omega) z1 z2
  have hg1 : ∀ M', gi M' 139 10 = gi M 139 10 → f_X9_isIn (iz z) (0 : Int32) ((gi M' 139 10) - (1 : Int32)) = _ := fun M' e => m_isPat (e.trans hM.1.pcount) (by omega) z1 z2
  have kn1 : ∀ M', f_X9_no (-1 : Int32) M' = f_X9_no (iz (-((1 : Nat) : Int))) M' := fun _ => rfl
  have kc1 : ∀ M', f_X8_refuse (-1 : Int32) M' = f_X8_refuse (iz (-((1 : Nat) : Int))) M' := fun _ => rfl
  have kn2 : ∀ M', f_X9_no (-2 : Int32) M' = f_X9_no (iz (-((2 : Nat) : Int))) M' := fun _ => rfl
  have kc2 : ∀ M', f_X8_refuse (-2 : Int32) M' = f_X8_refuse (iz (-((2 : Nat) : Int))) M' := fun _ => rfl
  by_cases q : 0 ≤ z ∧ z < now.2.1.length
  case neg =>
    rw [if_neg q] at hf1
    refine both_no' hI' (v := 1) (by omega) ?_ (fun M' hs => ?_)
    · simp (decide := true) only [f_X8_pattern, hf1, b_s1, if_true, b2_id]; exact kc1 _
    · have h1 := hg1 M' (by rw [(hs 139 (by omega)).1])
      rw [if_neg q] at h1
      simp (decide := true) only [f_X9_pattern, h1, b_s1, if_true, b2_id]; exact kn1 _
  rw [if_pos q] at hf1
  obtain ⟨w, rfl⟩ : ∃ w : Nat, z = (w : Int) := ⟨z.toNat, by omega⟩
  have hw : now.2.1[w]? = some now.2.1[w] := List.getElem?_eq_getElem (by omega)
  have hw8 : w < 8 := by omega
  obtain ⟨a1, a2, a3, a4⟩ := hC.1.2.1.2 w _ hw
  obtain ⟨b1, b2, b3, b4⟩ := hM.1.2.2.2.1 w _ hw
  have okq := hg.1.1.2.2.2.1 _ (List.mem_of_getElem? hw)
  generalize now.2.1[w] = qw at *
  rw [rd_in M (k := 145) (n := 8) (c := 232) (by omega) w hw8] at b1
  rw [rd_in M (k := 147) (n := 8) (c := 264) (by omega) w hw8] at b3
  rw [rd_in M (k := 148) (n := 8) (c := 272) (by omega) w hw8] at b4
  have g0 := hg1 M rfl
  rw [if_pos q] at g0
  have al9 : alen 9 = 8 := rfl
  have al10 : alen 10 = 8 := rfl
  have al11 : alen 11 = 8 := rfl
  by_cases r0 : p' = (0 : Int32)
  · refine ask hI' (r := iz (qw.1.length : Int)) ?_ ?_
    · simp (decide := true) only [f_X8_pattern, hf1, b_s1, r0, if_true, if_false]
      rw [c_at al9 (by omega) hw8, b_s1]; exact congrArg (fun x => some (x, M)) a2
    · simp (decide := true) only [f_X9_pattern, g0, b_s1, r0, if_true, if_false]
      rw [g_t (inB_n hw8 (by omega)), clN (by omega), b1]
  by_cases r1 : p' = (1 : Int32)
  · refine ask hI' (r := iz (qw.2.1 : Int)) ?_ ?_
    · simp (decide := true) only [f_X8_pattern, hf1, b_s1, r1, if_true, if_false]
      rw [c_at al10 (by omega) hw8, b_s1]; exact congrArg (fun x => some (x, M)) a3
    · simp (decide := true) only [f_X9_pattern, g0, b_s1, r1, if_true, if_false]
      rw [g_t (inB_n hw8 (by omega)), clN (by omega), b3]
  by_cases r2 : p' = (2 : Int32)
  · refine ask hI' (r := iz (qw.2.2 : Int)) ?_ ?_
    · simp (decide := true) only [f_X8_pattern, hf1, b_s1, r2, if_true, if_false]
      rw [c_at al11 (by omega) hw8, b_s1]; exact congrArg (fun x => some (x, M)) a4
    · simp (decide := true) only [f_X9_pattern, g0, b_s1, r2, if_true, if_false]
      rw [g_t (inB_n hw8 (by omega)), clN (by omega), b4]
  by_cases r3 : p' = (3 : Int32)
  · have h0 : 0 < qw.1.length := Nat.lt_of_lt_of_le Nat.zero_lt_one okq.1.1
    obtain ⟨a0, hj⟩ : ∃ a0, qw.1[0]? = some a0 := ⟨_, List.getElem?_eq_getElem h0⟩
    refine ask hI' (r := iz (a0 : Int)) ?_ ?_
    · have e1 : f_X4_spellingOf 7 (iz (w : Int)) M = some (pk qw.1) := by
        unfold f_X4_spellingOf
        rw [if_neg (not_neg w (by omega)), if_neg (show ¬ (8 : Int32) ≤ iz (w : Int) from not_le_ (n := 8) (by omega) hw8), g_t (inB_n hw8 (by omega)), clN (by omega)]
        exact congrArg some a1
      have e2 : f_X8_letterIn (pk qw.1) (0 : Int32) = _ := letterIn_pk (k := 0) (by have := okq.1.2.1; omega) okq.1.2.2 hj
      simp (decide := true) only [f_X8_pattern, f_X4_firstLetter, hf1, e1, e2, b_s1, r3, if_true, if_false]
    · have i2 : (3 : Int32) * iz (w : Int) = iz ((3 * w : Nat) : Int) := by
        rw [show (3 : Int32) = iz (3 : Int) from rfl, iz_mul]; congr 1
      have e4 := b2 0 _ hj
      rw [rd_in M (k := 146) (n := 24) (c := 240) (by omega) (3 * w + 0) (by omega)] at e4
      simp (decide := true) only [f_X9_pattern, g0, b_s1, r3, if_true, if_false]
      rw [i2, g_t (inB_n (by omega) (by omega)), clN (by omega)]
      exact congrArg (fun x => some (x, M)) e4
  refine both_no' hI' (v := 2) (by omega) ?_ (fun M' hs => ?_)
  · simp (decide := true) only [f_X8_pattern, hf1, b_s1, r0, r1, r2, r3, if_true, if_false, b2_id]; exact kc2 _
  · have h1 := hg1 M' (by rw [(hs 139 (by omega)).1])
    rw [if_pos q] at h1
    simp (decide := true) only [f_X9_pattern, h1, b_s1, r0, r1, r2, r3, if_true, if_false, b2_id]; exact kn2 _
