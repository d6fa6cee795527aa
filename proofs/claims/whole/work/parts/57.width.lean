/-! the width of a word -/
theorem width_loop {M : Mem} {v : PV} (hc : cPar M 1 v) (hm : mPar (rdNow M) v) (hv : okV v) {w : Nat} {q : Word} (hq : v.1[w]? = some q) : ∀ (d f i : Nat) (x : Int32), i + d = q.1.length → d < f → ∃ r, lq2 (f_X3_widthOf_L15 1 (iz (w : Int)) M (pk q.1)) f x (iz (i : Int)) = some r ∧ lq2 (f_X9_widthOf_L4 (iz (w : Int)) M) f x (iz (i : Int)) = some r := by
  have hw16 : w < 16 := Nat.lt_of_lt_of_le (List.getElem?_eq_some_iff.mp hq).1 hv.1
  have okq := hv.2.1 q (List.mem_of_getElem? hq)
  have hlq : q.1.length ≤ 12 := okq.1.2.1
  obtain ⟨a1, a2, a3⟩ := hc.1.2 w q hq
  obtain ⟨b1, b2, b3⟩ := hm.2.1 w q hq
  rw [rd_in M (k := 142) (n := 16) (c := 8) (by omega) w hw16] at b1
  have al : alen 5 = 16 := rfl
  have al2 : alen 2 = 8 := rfl
  have el : f_X7_lengthOf (1 + 2) (iz (w : Int)) M = some (iz (q.1.length : Int)) := by
    unfold f_X7_lengthOf
    show bq1 (f_X8_at 5 _ _) _ = _
    rw [c_at al (by omega) hw16, b_s1]; exact congrArg some a2
  intro d
  induction d with
  | zero =>
    intro f i x h1 h2
    obtain ⟨f, rfl⟩ : ∃ g, f = g + 1 := ⟨f - 1, by omega⟩
    have c1 : iz (q.1.length : Int) ≤ iz (i : Int) := (iz_cnt (by omega) (by omega)).2.2.mpr (by omega)
    refine ⟨x, ?_, ?_⟩
    · rw [lq2_s]
      generalize lq2 (f_X3_widthOf_L15 1 (iz (w : Int)) M (pk q.1)) f = K
      unfold f_X3_widthOf_L15; rw [el, b_s1, if_pos c1]
    · rw [lq2_s]
      generalize lq2 (f_X9_widthOf_L4 (iz (w : Int)) M) f = K
      unfold f_X9_widthOf_L4; rw [g_t (inB_n hw16 (by omega)), clN (by omega), b1, if_pos c1]
  | succ d ih =>
    intro f i x h1 h2
    obtain ⟨f, rfl⟩ : ∃ g, f = g + 1 := ⟨f - 1, by omega⟩
    have c1 : ¬ iz (q.1.length : Int) ≤ iz (i : Int) := fun e => by have := (iz_cnt (n := q.1.length) (m := i) (by omega) (by omega)).2.2.mp e; omega
    obtain ⟨a, ha⟩ : ∃ a, q.1[i]? = some a := ⟨_, List.getElem?_eq_getElem (show i < q.1.length by omega)⟩
    have ha8 : a < 8 := okq.1.2.2 a (List.mem_of_getElem? ha)
    have e2 := letterIn_pk hlq okq.1.2.2 ha
    have e4 := b2 i a ha
    rw [rd_in M (k := 143) (n := 192) (c := 24) (by omega) (12 * w + i) (by omega)] at e4
    have i2 : (12 : Int32) * iz (w : Int) + iz (i : Int) = iz ((12 * w + i : Nat) : Int) := by
      rw [show (12 : Int32) = iz (12 : Int) from rfl, iz_mul, iz_add]; congr 1
    have hwd : gi M 141 a = gi M 2 a := by
      have e := hm.2.2.2.2.1 a ha8
      have e5 := rd_in M (k := 141) (n := 8) (c := 0) (by omega) a ha8
      rw [Nat.zero_add] at e5
      rw [← e5, e]; exact (hc.2.2.1 a ha8).symm
    obtain ⟨r, r1, r2⟩ := ih f (i + 1) (x + gi M 2 a) (by omega) (by omega)
    refine ⟨r, ?_, ?_⟩
    · rw [lq2_s]
      generalize lq2 (f_X3_widthOf_L15 1 (iz (w : Int)) M (pk q.1)) f = K at r1 ⊢
      unfold f_X3_widthOf_L15
      rw [el, b_s1, if_neg c1, e2, b_s1, c_at (k := 1 + 1) al2 (by omega) ha8, b_s1, nmq_q, nmq_q, iz_s]; exact r1
    · rw [lq2_s]
      generalize lq2 (f_X9_widthOf_L4 (iz (w : Int)) M) f = K at r2 ⊢
      unfold f_X9_widthOf_L4
      rw [g_t (inB_n hw16 (by omega)), clN (by omega), b1, if_neg c1, i2, g_t (inB_n (by omega) (by omega)), clN (by omega), e4, g_t (inB_n ha8 (by omega)), nmq_q, nmq_q, clN (by omega), iz_s, hwd]; exact r2
theorem width_same {M : Mem} {v : PV} (hc : cPar M 1 v) (hm : mPar (rdNow M) v) (hv : okV v) {w : Nat} {q : Word} (hq : v.1[w]? = some q) : ∃ r, f_X3_widthOf 1 (iz (w : Int)) M = some r ∧ f_X9_widthOf (iz (w : Int)) M = some r := by
  have hw16 : w < 16 := Nat.lt_of_lt_of_le (List.getElem?_eq_some_iff.mp hq).1 hv.1
  have hlq : q.1.length ≤ 12 := (hv.2.1 q (List.mem_of_getElem? hq)).1.2.1
  obtain ⟨r, r1, r2⟩ := width_loop hc hm hv hq q.1.length FU 0 (0 : Int32) (by omega) (by rw [FU_eq]; omega)
  have e1 : f_X7_spellingOf (1 + 2) (iz (w : Int)) M = some (pk q.1) := by rw [c_spell hw16]; exact congrArg some (hc.1.2 w q hq).1
  refine ⟨r, ?_, ?_⟩
  · unfold f_X3_widthOf; rw [e1, b_s1, b1_id]; exact r1
  · unfold f_X9_widthOf; rw [b1_id]; exact r2
