theorem op_letter {M : Mem} (h : Inv M) (p : Int32) : both M (f_X8_letter p) (f_X9_letter p) := by
  by_cases c1 : (0 : Int32) ≤ p
  rotate_left
  · refine both_no h (v := 4) (by omega) ?_ (fun M' => ?_)
    · simp only [f_X8_letter, c1, if_false, b2_id, n4]
    · simp (decide := true) only [f_X9_letter, f_X9_bound, c1, if_false, b_s1, b2_id, n4]
  by_cases c2 : p ≤ (255 : Int32)
  rotate_left
  · have c3 := lt_of_n c2
    refine both_no h (v := 6) (by omega) ?_ (fun M' => ?_)
    · simp only [f_X8_letter, jq, c1, c3, if_true, b2_id, n6]
    · simp (decide := true) only [f_X9_letter, f_X9_bound, c1, c2, if_true, if_false, b_s1, b2_id, n6]
  have c3 := nlt_of c2
  obtain ⟨now, img, st, ct, hist, ls, rw_, R, hg, hC, hM⟩ := id h
  have hcn := hC.2.2.2.2.1.1
  have hmn := hM.2.2.2.2.1.1
  have hlen := hg.2.2.2.2.2.1
  by_cases q3 : ls.length = 96
  · obtain ⟨M1, M2, h1, h2, h3⟩ := inv_no h (v := 6) (by omega)
    have e1 : f_X8_letter p M = f_X8_refuse (iz (-((6 : Nat) : Int))) M := by
      have c4 : ¬ gi M 124 1 < 96 := by rw [hcn, q3]; decide
      simp (decide := true) only [f_X8_letter, f_X5_isFull, jq, c1, c3, c4, if_true, if_false, b_s1, b2_id, n6]
    have e2 : f_X9_letter p M1 = f_X9_no (iz (-((6 : Nat) : Int))) M1 := by
      have hk : gi M1 139 36 = gi M 139 36 := by rw [c_refuse (by omega)] at h1; cases h1; rfl
      have c4 : gi M1 139 36 = 96 := by rw [hk, hmn, q3]; decide
      simp (decide := true) only [f_X9_letter, f_X9_bound, c1, c2, c4, if_true, if_false, b_s1, b2_id, n6]
    exact ⟨_, M1, M2, e1.trans h1, e2.trans h2, h3⟩
  · obtain ⟨z, z1, z2, rfl⟩ := iz_arg (a := 0) (b := 255) (by decide) (by decide) c1 c2 (by omega) (by omega) (by omega) (by omega)
    have c4 : gi M 124 1 < 96 := by rw [hcn]; exact (iz_cnt (n := ls.length) (m := 96) (by omega) (by omega)).1.mpr (by omega)
    have e1 : f_X8_letter (iz z) M = some (iz ((ls.length + 1 : Nat) : Int), si (si M 125 ls.length (iz z)) 124 1 (iz ((ls.length + 1 : Nat) : Int))) := by
      simp (decide := true) only [f_X8_letter, f_X5_isFull, f_X5_take, jq, nmq, c1, c3, c4, if_true, if_false, b_s1, b2_id]
      rw [hcn, c_put al125 (by omega) (by omega : ls.length < 96), b_s1]
      have : gi (si M 125 ls.length (iz z)) 124 1 = iz ls.length := hcn
      rw [this, iz_s, gi_si, if_pos ⟨rfl, rfl⟩]
    generalize hM1 : si (si M 125 ls.length (iz z)) 124 1 (iz ((ls.length + 1 : Nat) : Int)) = M1 at e1
    have hsM : sameOn (fun k => 139 ≤ k) M M1 := by rw [← hM1]; exact (sameOn.si (by omega)).tr (sameOn.si (by omega))
    have hmn1 : gi M1 139 36 = iz ls.length := by rw [(hsM 139 (by omega)).1]; exact hmn
    have c5 : ¬ gi M1 139 36 = 96 := by rw [hmn1]; exact fun q => q3 ((iz_cnt (n := ls.length) (m := 96) (by omega) (by omega)).2.1.mp q)
    have e2 : f_X9_letter (iz z) M1 = some (iz ((ls.length + 1 : Nat) : Int), si (si M1 156 ls.length (iz z)) 139 36 (iz ((ls.length + 1 : Nat) : Int))) := by
      simp (decide := true) only [f_X9_letter, f_X9_bound, nmq, c1, c2, c5, if_true, if_false, b_s1]
      have : gi (si M1 156 (gi M1 139 36).toNatClampNeg (iz z)) 139 36 = iz ls.length := hmn1
      rw [this, hmn1, g_t (inB_n (by omega) (by omega)), clN (by omega), iz_s, gi_si, if_pos ⟨rfl, rfl⟩]
    refine ⟨_, M1, _, e1, e2, now, img, st, ct, hist, ls ++ [z.toNat], rw_, R, ?_, ?_, ?_⟩
    · obtain ⟨g1, g2, g3, g4, g5, g6, g7, g8, g9⟩ := hg
      refine ⟨g1, g2, g3, g4, g5, by simp; omega, fun a ha => ?_, g8, g9⟩
      rcases List.mem_append.mp ha with q | q
      · exact g7 a q
      · rw [List.mem_singleton.mp q]; omega
    · have hC1 : IC M1 now img st ct hist (ls ++ [z.toNat]) rw_ R := by
        refine hC.setLs (by rw [← hM1]; exact (sameOn.si (by omega)).tr (sameOn.si (by omega))) ⟨by rw [← hM1, gi_si, if_pos ⟨rfl, rfl⟩, List.length_append]; rfl, fun i a ha => ?_⟩
        rw [← hM1, gi_si, if_neg (by omega), gi_si]
        rcases snoc_at ha with ⟨q1, q2⟩ | ⟨q1, q2⟩
        · rw [if_neg (by omega)]; exact hC.2.2.2.2.1.2 i a q2
        · rw [if_pos ⟨rfl, q1⟩, q2, Int.toNat_of_nonneg z1]
      exact hC1.same ((sameOn.si (by omega)).tr (sameOn.si (by omega)))
    · have hMM := hM.same hg hsM
      refine hMM.setLs hg ((sameOn.si (by omega)).tr (sameOn.si (by omega))) (fun j hj => by rw [gi_si, if_neg (by omega), gi_si, if_neg (by omega)]) ⟨by rw [gi_si, if_pos ⟨rfl, rfl⟩, List.length_append]; rfl, fun i a ha => ?_⟩
      rw [gi_si, if_neg (by omega), gi_si]
      rcases snoc_at ha with ⟨q1, q2⟩ | ⟨q1, q2⟩
      · rw [if_neg (by omega)]; exact hMM.2.2.2.2.1.2 i a q2
      · rw [if_pos ⟨rfl, q1⟩, q2, Int.toNat_of_nonneg z1]
