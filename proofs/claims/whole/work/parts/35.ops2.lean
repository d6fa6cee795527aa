theorem n1 : (-1 : Int32) = iz (-((1 : Nat) : Int)) := by decide
theorem n2 : (-2 : Int32) = iz (-((2 : Nat) : Int)) := by decide
theorem n3 : (-3 : Int32) = iz (-((3 : Nat) : Int)) := by decide
theorem n4 : (-4 : Int32) = iz (-((4 : Nat) : Int)) := by decide
theorem n6 : (-6 : Int32) = iz (-((6 : Nat) : Int)) := by decide
theorem iz_0 : iz 0 = 0 := by decide
theorem iz_ne0 {z : Int} (h : z ≠ 0) (h1 : -2147483648 ≤ z) (h2 : z < 2147483648) : ¬ iz z = 0 := by rw [← iz_0, iz_eq h1 h2 (by omega) (by omega)]; exact h
theorem iz_s (n : Nat) : iz (n : Int) + 1 = iz ((n + 1 : Nat) : Int) := by
  rw [iz_lit, iz_add]; congr 1
theorem lt_iz {a b : Int} (h1 : -2147483648 ≤ a) (h2 : a < 2147483648) (h3 : -2147483648 ≤ b) (h4 : b < 2147483648) (h : a < b) : iz a < iz b := (iz_lt h1 h2 h3 h4).mpr h
theorem nlt_iz {a b : Int} (h1 : -2147483648 ≤ a) (h2 : a < 2147483648) (h3 : -2147483648 ≤ b) (h4 : b < 2147483648) (h : ¬ a < b) : ¬ iz a < iz b := fun q => h ((iz_lt h1 h2 h3 h4).mp q)
theorem le_iz {a b : Int} (h1 : -2147483648 ≤ a) (h2 : a < 2147483648) (h3 : -2147483648 ≤ b) (h4 : b < 2147483648) (h : a ≤ b) : iz a ≤ iz b := (iz_le h1 h2 h3 h4).mpr h
theorem nle_iz {a b : Int} (h1 : -2147483648 ≤ a) (h2 : a < 2147483648) (h3 : -2147483648 ≤ b) (h4 : b < 2147483648) (h : ¬ a ≤ b) : ¬ iz a ≤ iz b := fun q => h ((iz_le h1 h2 h3 h4).mp q)
theorem neq_iz {a b : Int} (h1 : -2147483648 ≤ a) (h2 : a < 2147483648) (h3 : -2147483648 ≤ b) (h4 : b < 2147483648) (h : ¬ a = b) : ¬ iz a = iz b := fun q => h ((iz_eq h1 h2 h3 h4).mp q)
theorem snoc_at {α : Type} {l : List α} {x : α} {i : Nat} {a : α} (h : (l ++ [x])[i]? = some a) : (i < l.length ∧ l[i]? = some a) ∨ (i = l.length ∧ a = x) := by
  rcases Nat.lt_or_ge i l.length with q | q
  · rw [List.getElem?_append_left q] at h; exact Or.inl ⟨q, h⟩
  · rw [List.getElem?_append_right q] at h
    rcases Nat.eq_or_lt_of_le q with q2 | q2
    · rw [← q2, Nat.sub_self] at h; exact Or.inr ⟨q2.symm, by simpa using h.symm⟩
    · rw [List.getElem?_eq_none (by simp; omega)] at h; cases h
theorem op_clear {M : Mem} (h : Inv M) : both M f_X8_clear f_X9_clear := by
  obtain ⟨now, img, st, ct, hist, ls, rw_, R, hg, hC, hM⟩ := h
  have e1 : gi (si M 0 8 0) 139 52 = gi M 0 8 := by rw [gi_si, if_neg (by omega), hM.2.2.2.2.2.1.1, hC.2.2.2.2.2.1.1]
  refine ⟨gi M 0 8, si M 0 8 0, si (si M 0 8 0) 139 52 0, rfl, ?_, now, img, st, ct, hist, ls, [], R, ?_, ?_, ?_⟩
  · show some (gi (si M 0 8 0) 139 52, _) = _; rw [e1]
  · exact ⟨hg.1, hg.2.1, hg.2.2.1, hg.2.2.2.1, hg.2.2.2.2.1, hg.2.2.2.2.2.1, hg.2.2.2.2.2.2.1, by simp, by simp⟩
  · refine IC.same (M := si M 0 8 0) (hC.setRw (sameOn.si (by omega)) rfl ⟨rfl, fun i a h => by simp at h⟩) (sameOn.si (by omega))
  · refine (hM.same hg (sameOn.si (by omega))).setRw hg (sameOn.si (by omega)) (fun j hj => by rw [gi_si, if_neg (by omega)]) ⟨rfl, fun i a h => by simp at h⟩
theorem nlt_of {a b : Int32} (h : b ≤ a) : ¬ a < b := Int32.not_lt.mpr h
theorem lt_of_n {a b : Int32} (h : ¬ b ≤ a) : a < b := Int32.not_le.mp h
theorem iz_arg {p lo hi : Int32} {a b : Int} (ea : lo = iz a) (eb : hi = iz b) (h1 : lo ≤ p) (h2 : p ≤ hi) (ha : -2147483648 ≤ a) (ha2 : a < 2147483648) (hb : -2147483648 ≤ b) (hb2 : b < 2147483648) : ∃ z : Int, a ≤ z ∧ z ≤ b ∧ p = iz z := by
  obtain ⟨z, z1, z2, rfl⟩ := iz_ex p
  subst ea; subst eb
  exact ⟨z, (iz_le ha ha2 z1 z2).mp h1, (iz_le z1 z2 hb hb2).mp h2, rfl⟩
theorem iz_cnt {n m : Nat} (hn : n < 5000) (hm : m < 5000) : (iz (n : Int) < iz (m : Int) ↔ n < m) ∧ (iz (n : Int) = iz (m : Int) ↔ n = m) ∧ (iz (n : Int) ≤ iz (m : Int) ↔ n ≤ m) :=
  ⟨by rw [iz_lt (by omega) (by omega) (by omega) (by omega)]; omega, by rw [iz_eq (by omega) (by omega) (by omega) (by omega)]; omega, by rw [iz_le (by omega) (by omega) (by omega) (by omega)]; omega⟩
theorem clN {n : Nat} (hn : n < 5000) : (iz (n : Int)).toNatClampNeg = n := by rw [iz_cl (by omega) (by omega)]; rfl
theorem inB_n {i n : Nat} (h : i < n) (hn : n < 5000) : inB (iz (i : Int)) n := inB_iz (by omega) (by omega) (by omega)
theorem op_row {M : Mem} (h : Inv M) (p : Int32) : both M (f_X8_row p) (f_X9_row p) := by
  by_cases c1 : (0 : Int32) ≤ p
  rotate_left
  · refine both_no h (v := 4) (by omega) ?_ (fun M' => ?_)
    · simp only [f_X8_row, c1, if_false, b2_id, n4]
    · simp (decide := true) only [f_X9_row, f_X9_bound, c1, if_false, b_s1, b2_id, n4]
  by_cases c2 : p ≤ (99 : Int32)
  rotate_left
  · have c3 := lt_of_n c2
    refine both_no h (v := 6) (by omega) ?_ (fun M' => ?_)
    · simp only [f_X8_row, jq, c1, c3, if_true, b2_id, n6]
    · simp (decide := true) only [f_X9_row, f_X9_bound, c1, c2, if_true, if_false, b_s1, b2_id, n6]
  have c3 := nlt_of c2
  obtain ⟨now, img, st, ct, hist, ls, rw_, R, hg, hC, hM⟩ := id h
  have hcn := hC.2.2.2.2.2.1.1
  have hmn := hM.2.2.2.2.2.1.1
  have hlen := hg.2.2.2.2.2.2.2.1
  by_cases q3 : rw_.length = 16
  · obtain ⟨M1, M2, h1, h2, h3⟩ := inv_no h (v := 6) (by omega)
    have e1 : f_X8_row p M = f_X8_refuse (iz (-((6 : Nat) : Int))) M := by
      have c4 : ¬ gi M 0 8 < 16 := by rw [hcn, q3]; decide
      simp only [f_X8_row, jq, c1, c3, c4, if_true, if_false, b2_id, n6]
    have e2 : f_X9_row p M1 = f_X9_no (iz (-((6 : Nat) : Int))) M1 := by
      have hk : gi M1 139 52 = gi M 139 52 := by rw [c_refuse (by omega)] at h1; cases h1; rfl
      have c4 : gi M1 139 52 = 16 := by rw [hk, hmn, q3]; decide
      simp (decide := true) only [f_X9_row, f_X9_bound, c1, c2, c4, if_true, if_false, b_s1, b2_id, n6]
    exact ⟨_, M1, M2, e1.trans h1, e2.trans h2, h3⟩
  · obtain ⟨z, z1, z2, rfl⟩ := iz_arg (a := 0) (b := 99) (by decide) (by decide) c1 c2 (by omega) (by omega) (by omega) (by omega)
    have c4 : gi M 0 8 < 16 := by rw [hcn]; exact (iz_cnt (n := rw_.length) (m := 16) (by omega) (by omega)).1.mpr (by omega)
    have e1 : f_X8_row (iz z) M = some (iz ((rw_.length + 1 : Nat) : Int), si (si M 137 rw_.length (iz z)) 0 8 (iz ((rw_.length + 1 : Nat) : Int))) := by
      simp only [f_X8_row, jq, nmq, c1, c3, c4, if_true, if_false]
      rw [hcn, c_put al137 (by omega) (by omega : rw_.length < 16), b_s1]
      have : gi (si M 137 rw_.length (iz z)) 0 8 = iz rw_.length := hcn
      rw [this, iz_s, gi_si, if_pos ⟨rfl, rfl⟩]
    generalize hM1 : si (si M 137 rw_.length (iz z)) 0 8 (iz ((rw_.length + 1 : Nat) : Int)) = M1 at e1
    have hsM : sameOn (fun k => 139 ≤ k) M M1 := by rw [← hM1]; exact (sameOn.si (by omega)).tr (sameOn.si (by omega))
    have hmn1 : gi M1 139 52 = iz rw_.length := by rw [(hsM 139 (by omega)).1]; exact hmn
    have c5 : ¬ gi M1 139 52 = 16 := by rw [hmn1]; exact fun q => q3 ((iz_cnt (n := rw_.length) (m := 16) (by omega) (by omega)).2.1.mp q)
    have e2 : f_X9_row (iz z) M1 = some (iz ((rw_.length + 1 : Nat) : Int), si (si M1 168 rw_.length (iz z)) 139 52 (iz ((rw_.length + 1 : Nat) : Int))) := by
      simp (decide := true) only [f_X9_row, f_X9_bound, nmq, c1, c2, c5, if_true, if_false, b_s1]
      have : gi (si M1 168 (gi M1 139 52).toNatClampNeg (iz z)) 139 52 = iz rw_.length := hmn1
      rw [this, hmn1, g_t (inB_n (by omega) (by omega)), clN (by omega), iz_s, gi_si, if_pos ⟨rfl, rfl⟩]
    refine ⟨_, M1, _, e1, e2, now, img, st, ct, hist, ls, rw_ ++ [z.toNat], R, ?_, ?_, ?_⟩
    · obtain ⟨g1, g2, g3, g4, g5, g6, g7, g8, g9⟩ := hg
      refine ⟨g1, g2, g3, g4, g5, g6, g7, by simp; omega, fun a ha => ?_⟩
      rcases List.mem_append.mp ha with q | q
      · exact g9 a q
      · rw [List.mem_singleton.mp q]; omega
    · have hC1 : IC M1 now img st ct hist ls (rw_ ++ [z.toNat]) R := by
        refine hC.setRw (by rw [← hM1]; exact (sameOn.si (by omega)).tr (sameOn.si (by omega))) (by rw [← hM1]; rfl) ⟨by rw [← hM1, gi_si, if_pos ⟨rfl, rfl⟩, List.length_append]; rfl, fun i a ha => ?_⟩
        rw [← hM1, gi_si, if_neg (by omega), gi_si]
        rcases snoc_at ha with ⟨q1, q2⟩ | ⟨q1, q2⟩
        · rw [if_neg (by omega)]; exact hC.2.2.2.2.2.1.2 i a q2
        · rw [if_pos ⟨rfl, q1⟩, q2, Int.toNat_of_nonneg z1]
      exact hC1.same ((sameOn.si (by omega)).tr (sameOn.si (by omega)))
    · have hMM := hM.same hg hsM
      refine hMM.setRw hg ((sameOn.si (by omega)).tr (sameOn.si (by omega))) (fun j hj => by rw [gi_si, if_neg (by omega), gi_si, if_neg (by omega)]) ⟨by rw [gi_si, if_pos ⟨rfl, rfl⟩, List.length_append]; rfl, fun i a ha => ?_⟩
      rw [gi_si, if_neg (by omega), gi_si]
      rcases snoc_at ha with ⟨q1, q2⟩ | ⟨q1, q2⟩
      · rw [if_neg (by omega)]; exact hMM.2.2.2.2.2.1.2 i a q2
      · rw [if_pos ⟨rfl, q1⟩, q2, Int.toNat_of_nonneg z1]
