/-! the law, from the calls' lemmas -/
theorem law_b {M : Mem} {f g : Mem → Option (Int32 × Mem)} {K : Int32 → Mem → Option (Int32 × Mem)} {i : Int32} (h : both M f g) : ∃ M', Inv M' ∧ bq2 (f M) (fun (x1 : Int32) (M2 : Mem) => bq2 (g M2) (fun (x4 : Int32) (M5 : Mem) => (if x1 = x4 then (nmq (i + (5 : Int32)) (fun (x8 : Int32) => (K x8 M5))) else some ((0 : Int32), M5)))) = K (i + (5 : Int32)) M' := by
  obtain ⟨r, M1, M2, h1, h2, h3⟩ := h
  refine ⟨M2, h3, ?_⟩
  rw [h1, b_s2, h2, b_s2, if_pos rfl, nmq_q]
theorem law_l {M : Mem} {f g : Mem → Option (Int64 × Mem)} {K : Int32 → Mem → Option (Int32 × Mem)} {i : Int32} (h : bothL M f g) : ∃ M', Inv M' ∧ bq2 (f M) (fun (x1 : Int64) (M2 : Mem) => bq2 (g M2) (fun (x4 : Int64) (M5 : Mem) => (if (lcm x1 x4) = 0 then (nmq (i + (5 : Int32)) (fun (x8 : Int32) => (K x8 M5))) else some ((0 : Int32), M5)))) = K (i + (5 : Int32)) M' := by
  obtain ⟨r, M1, M2, h1, h2, h3⟩ := h
  refine ⟨M2, h3, ?_⟩
  rw [h1, b_s2, h2, b_s2, if_pos ((lcm_0 r r).mpr rfl), nmq_q]
theorem law_step {xs : Nat → Int32} {L : Nat} {K : Int32 → Mem → Option (Int32 × Mem)} {i : Int32} (g0 : inB i L) (g1 : inB (i + (1 : Int32)) L) (g2 : inB (i + (2 : Int32)) L) (g3 : inB (i + (3 : Int32)) L) (g4 : inB (i + (4 : Int32)) L) (hn : ¬ ((Int32.ofNat L) - (5 : Int32)) < i) {M : Mem} (hI : Inv M) : ∃ M', Inv M' ∧ f_law_L xs L K i M = K (i + (5 : Int32)) M' := by
  unfold f_law_L
  rw [if_neg hn, g_t g0, nmq_q]
  generalize (xs (i : Int32).toNatClampNeg) &&& (63 : Int32) = x
  by_cases q0 : x = (0 : Int32)
  · rw [if_pos q0]
    unfold f_law_c0
    simp only [g_t g1]
    exact law_b (op_letter hI _)
  rw [if_neg q0]
  by_cases q1 : x = (1 : Int32)
  · rw [if_pos q1]
    unfold f_law_c1
    exact law_b (op_sheet hI)
  rw [if_neg q1]
  by_cases q2 : x = (2 : Int32)
  · rw [if_pos q2]
    unfold f_law_c2
    simp only [g_t g1, g_t g2]
    exact law_b (op_widens hI _ _)
  rw [if_neg q2]
  by_cases q3 : x = (3 : Int32)
  · rw [if_pos q3]
    unfold f_law_c3
    simp only [g_t g1, g_t g2, g_t g3]
    exact law_b (op_adds hI _ _ _)
  rw [if_neg q3]
  by_cases q4 : x = (4 : Int32)
  · rw [if_pos q4]
    unfold f_law_c4
    simp only [g_t g1]
    exact law_b (op_forces hI _)
  rw [if_neg q4]
  by_cases q5 : x = (5 : Int32)
  · rw [if_pos q5]
    unfold f_law_c5
    simp only [g_t g1]
    exact law_b (op_drops hI _)
  rw [if_neg q5]
  by_cases q6 : x = (6 : Int32)
  · rw [if_pos q6]
    unfold f_law_c6
    simp only [g_t g1, g_t g2, g_t g3, g_t g4]
    exact law_b (op_patterns hI _ _ _ _)
  rw [if_neg q6]
  by_cases q7 : x = (7 : Int32)
  · rw [if_pos q7]
    unfold f_law_c7
    simp only [g_t g1]
    exact law_b (op_line hI _)
  rw [if_neg q7]
  by_cases q8 : x = (8 : Int32)
  · rw [if_pos q8]
    unfold f_law_c8
    simp only [g_t g1, g_t g2, g_t g3]
    exact law_b (op_glue hI _ _ _)
  rw [if_neg q8]
  by_cases q9 : x = (9 : Int32)
  · rw [if_pos q9]
    unfold f_law_c9
    simp only [g_t g1]
    exact law_b (op_tolerance hI _)
  rw [if_neg q9]
  by_cases q10 : x = (10 : Int32)
  · rw [if_pos q10]
    unfold f_law_c10
    simp only [g_t g1]
    exact law_b (op_hyphen hI _)
  rw [if_neg q10]
  by_cases q11 : x = (11 : Int32)
  · rw [if_pos q11]
    unfold f_law_c11
    simp only [g_t g1]
    exact law_b (op_widow hI _)
  rw [if_neg q11]
  by_cases q12 : x = (12 : Int32)
  · rw [if_pos q12]
    unfold f_law_c12
    simp only [g_t g1]
    exact law_b (op_manner hI _)
  rw [if_neg q12]
  by_cases q13 : x = (13 : Int32)
  · rw [if_pos q13]
    unfold f_law_c13
    simp only [g_t g1, g_t g2]
    exact law_b (op_kind hI _ _)
  rw [if_neg q13]
  by_cases q14 : x = (14 : Int32)
  · rw [if_pos q14]
    unfold f_law_c14
    exact law_b (op_back hI)
  rw [if_neg q14]
  by_cases q15 : x = (15 : Int32)
  · rw [if_pos q15]
    unfold f_law_c15
    simp only [g_t g1, g_t g2]
    exact law_b (op_word hI _ _)
  rw [if_neg q15]
  by_cases q16 : x = (16 : Int32)
  · rw [if_pos q16]
    unfold f_law_c16
    simp only [g_t g1, g_t g2]
    exact law_b (op_spelt hI _ _)
  rw [if_neg q16]
  by_cases q17 : x = (17 : Int32)
  · rw [if_pos q17]
    unfold f_law_c17
    simp only [g_t g1, g_t g2]
    exact law_b (op_values hI _ _)
  rw [if_neg q17]
  by_cases q18 : x = (18 : Int32)
  · rw [if_pos q18]
    unfold f_law_c18
    simp only [g_t g1, g_t g2]
    exact law_b (op_pattern hI _ _)
  rw [if_neg q18]
  by_cases q19 : x = (19 : Int32)
  · rw [if_pos q19]
    unfold f_law_c19
    simp only [g_t g1]
    exact law_b (op_lines hI _)
  rw [if_neg q19]
  by_cases q20 : x = (20 : Int32)
  · rw [if_pos q20]
    unfold f_law_c20
    simp only [g_t g1, g_t g2]
    exact law_b (op_lineOf hI _ _)
  rw [if_neg q20]
  by_cases q21 : x = (21 : Int32)
  · rw [if_pos q21]
    unfold f_law_c21
    simp only [g_t g1]
    exact law_b (op_ratio hI _)
  rw [if_neg q21]
  by_cases q22 : x = (22 : Int32)
  · rw [if_pos q22]
    unfold f_law_c22
    simp only [g_t g1]
    exact law_b (op_badness hI _)
  rw [if_neg q22]
  by_cases q23 : x = (23 : Int32)
  · rw [if_pos q23]
    unfold f_law_c23
    simp only [g_t g1]
    exact law_b (op_demerits hI _)
  rw [if_neg q23]
  by_cases q24 : x = (24 : Int32)
  · rw [if_pos q24]
    unfold f_law_c24
    simp only [g_t g1]
    exact law_b (op_total hI _)
  rw [if_neg q24]
  by_cases q25 : x = (25 : Int32)
  · rw [if_pos q25]
    unfold f_law_c25
    exact law_b (op_firstFit hI)
  rw [if_neg q25]
  by_cases q26 : x = (26 : Int32)
  · rw [if_pos q26]
    unfold f_law_c26
    simp only [g_t g1]
    exact law_b (op_with hI _)
  rw [if_neg q26]
  by_cases q27 : x = (27 : Int32)
  · rw [if_pos q27]
    unfold f_law_c27
    simp only [g_t g1]
    exact law_b (op_narrowest hI _)
  rw [if_neg q27]
  by_cases q28 : x = (28 : Int32)
  · rw [if_pos q28]
    unfold f_law_c28
    simp only [g_t g1, g_t g2]
    exact law_b (op_without hI _ _)
  rw [if_neg q28]
  by_cases q29 : x = (29 : Int32)
  · rw [if_pos q29]
    unfold f_law_c29
    exact law_b (op_worst hI)
  rw [if_neg q29]
  by_cases q30 : x = (30 : Int32)
  · rw [if_pos q30]
    unfold f_law_c30
    exact law_b (op_manners hI)
  rw [if_neg q30]
  by_cases q31 : x = (31 : Int32)
  · rw [if_pos q31]
    unfold f_law_c31
    simp only [g_t g1, g_t g2]
    exact law_b (op_two hI _ _)
  rw [if_neg q31]
  by_cases q32 : x = (32 : Int32)
  · rw [if_pos q32]
    unfold f_law_c32
    simp only [g_t g1, g_t g2, g_t g3]
    exact law_l (op_lost hI _ _ _)
  rw [if_neg q32]
  by_cases q33 : x = (33 : Int32)
  · rw [if_pos q33]
    unfold f_law_c33
    simp only [g_t g1]
    exact law_l (op_mean hI _)
  rw [if_neg q33]
  by_cases q34 : x = (34 : Int32)
  · rw [if_pos q34]
    unfold f_law_c34
    simp only [g_t g1]
    exact law_b (op_whatIs hI _)
  rw [if_neg q34]
  by_cases q35 : x = (35 : Int32)
  · rw [if_pos q35]
    unfold f_law_c35
    simp only [g_t g1]
    exact law_b (op_row hI _)
  rw [if_neg q35]
  by_cases q36 : x = (36 : Int32)
  · rw [if_pos q36]
    unfold f_law_c36
    exact law_b (op_judge hI)
  rw [if_neg q36]
  by_cases q37 : x = (37 : Int32)
  · rw [if_pos q37]
    unfold f_law_c37
    exact law_b (op_clear hI)
  rw [if_neg q37]
  by_cases q38 : x = (38 : Int32)
  · rw [if_pos q38]
    unfold f_law_c38
    simp only [g_t g1, g_t g2, g_t g3]
    exact law_b (op_lots hI _ _ _)
  rw [if_neg q38]
  by_cases q39 : x = (39 : Int32)
  · rw [if_pos q39]
    unfold f_law_c39
    exact law_b (op_image hI)
  rw [if_neg q39]
  by_cases q40 : x = (40 : Int32)
  · rw [if_pos q40]
    unfold f_law_c40
    exact law_b (op_on hI)
  rw [if_neg q40]
  by_cases q41 : x = (41 : Int32)
  · rw [if_pos q41]
    unfold f_law_c41
    obtain ⟨r, h1, h2⟩ := op_count hI (xs ((i + (1 : Int32)) : Int32).toNatClampNeg)
    exact ⟨M, hI, by rw [g_t g1, h1, b_s1, g_t g1, h2, b_s1, if_pos rfl, nmq_q]⟩
  rw [if_neg q41]
  exact ⟨M, hI, rfl⟩
theorem law_all {xs : Nat → Int32} {L : Nat} (hL : L ≤ 2560) : ∀ (n f k : Nat) (M : Mem), L < k + 5 + 5 * n → n < f → k ≤ 2600 → Inv M → ∃ Mr, lq2 (f_law_L xs L) f (iz (k : Int)) M = some ((1 : Int32), Mr) := by
  have hcmp : ∀ k : Nat, k ≤ 2600 → (((Int32.ofNat L) - (5 : Int32)) < iz (k : Int) ↔ L < k + 5) := fun k hk => by
    have e : (Int32.ofNat L) - (5 : Int32) = iz ((L : Int) - 5) := by
      rw [show Int32.ofNat L = iz (L : Int) from iz_nat L, show (5 : Int32) = iz (5 : Int) from rfl, iz_sub]
    rw [e, iz_lt (by omega) (by omega) (by omega) (by omega)]
    omega
  intro n
  induction n with
  | zero =>
    intro f k M h1 h2 h3 hI
    obtain ⟨f, rfl⟩ : ∃ g, f = g + 1 := ⟨f - 1, by omega⟩
    refine ⟨M, ?_⟩
    rw [lq2_s]
    generalize lq2 (f_law_L xs L) f = K
    unfold f_law_L
    rw [if_pos ((hcmp k h3).mpr (by omega))]
  | succ n ih =>
    intro f k M h1 h2 h3 hI
    obtain ⟨f, rfl⟩ : ∃ g, f = g + 1 := ⟨f - 1, by omega⟩
    by_cases q : L < k + 5
    · refine ⟨M, ?_⟩
      rw [lq2_s]
      generalize lq2 (f_law_L xs L) f = K
      unfold f_law_L
      rw [if_pos ((hcmp k h3).mpr q)]
    · have ei : ∀ j : Nat, iz (k : Int) + iz (j : Int) = iz ((k + j : Nat) : Int) := fun j => iz_add _ _
      have hin : ∀ j : Nat, j < 5 → inB (iz (k : Int) + iz (j : Int)) L := fun j hj => by rw [ei]; exact inB_n (by omega) (by omega)
      obtain ⟨M', hI', hs⟩ := law_step (xs := xs) (L := L) (K := lq2 (f_law_L xs L) f) (i := iz (k : Int)) (inB_n (by omega) (by omega)) (hin 1 (by omega)) (hin 2 (by omega)) (hin 3 (by omega)) (hin 4 (by omega)) (fun t => q ((hcmp k h3).mp t)) hI
      obtain ⟨Mr, hr⟩ := ih f (k + 5) M' (by omega) (by omega) (by omega) hI'
      refine ⟨Mr, ?_⟩
      rw [lq2_s, hs]
      have e5 : iz (k : Int) + (5 : Int32) = iz ((k + 5 : Nat) : Int) := ei 5
      rw [e5]; exact hr
theorem hmain_of (hini : Inv Mini) (xs : Nat → Int32) (L : Nat) (hL : L ≤ 2560) : ∃ Mr : Mem, lq2 (f_law_L xs L) FU (0 : Int32) Mini = some ((1 : Int32), Mr) := law_all hL 520 FU 0 Mini (by omega) (by rw [FU_eq]; omega) (by omega) hini
