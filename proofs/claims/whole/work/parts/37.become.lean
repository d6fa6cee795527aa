/-! one paragraph becomes another -/
theorem c_copyI {k1 k2 n : Nat} {M : Mem} (h1 : alen k1 = n) (h2 : alen k2 = n) (hn : n < 5000) : ∃ M', f_X8_copyInts k1 k2 M = some M' ∧ (∀ j, j < n → gi M' k2 j = gi M k1 j) ∧ sameOn (fun k => k ≠ k2) M M' := by
  have c1 : ¬ Int32.ofNat n < Int32.ofNat n := Int32.lt_irrefl
  have c2 : (Int32.ofNat n).toNatClampNeg = n := by rw [iz_nat]; exact clN hn
  have c3 : cpB (0 : Int32) (0 : Int32) (Int32.ofNat n) n n := ⟨by decide, by decide, by rw [iz_nat]; exact not_neg n (by omega), by rw [c2]; show 0 + n ≤ n; omega, by rw [c2]; show 0 + n ≤ n; omega⟩
  have e : f_X8_copyInts k1 k2 M = some (sri M k2 (va_cpy (gi M k1) (gi M k2) (0 : Int32).toNatClampNeg (0 : Int32).toNatClampNeg (Int32.ofNat n).toNatClampNeg)) := by
    simp only [f_X8_copyInts, f_J9_min_7cf53, h1, h2, c1, if_false, b_s1, nmq]; rw [g_t c3]
  refine ⟨_, e, fun j hj => ?_, fun k hk => ⟨ne_rr hk, rfl, rfl⟩⟩
  rw [gi_sri, if_pos rfl, c2]
  unfold va_cpy
  rw [if_pos ⟨Nat.zero_le _, by show j < 0 + n; omega⟩]
  show gi M k1 (0 + (j - 0)) = _
  rw [Nat.zero_add]; rfl
theorem c_copyL {k1 k2 n : Nat} {M : Mem} (h1 : alen k1 = n) (h2 : alen k2 = n) (hn : n < 5000) : ∃ M', f_X8_copyLongs k1 k2 M = some M' ∧ (∀ j, j < n → gl M' k2 j = gl M k1 j) ∧ sameOn (fun k => k ≠ k2) M M' := by
  have c1 : ¬ Int32.ofNat n < Int32.ofNat n := Int32.lt_irrefl
  have c2 : (Int32.ofNat n).toNatClampNeg = n := by rw [iz_nat]; exact clN hn
  have c3 : cpB (0 : Int32) (0 : Int32) (Int32.ofNat n) n n := ⟨by decide, by decide, by rw [iz_nat]; exact not_neg n (by omega), by rw [c2]; show 0 + n ≤ n; omega, by rw [c2]; show 0 + n ≤ n; omega⟩
  have e : f_X8_copyLongs k1 k2 M = some (srl M k2 (va_cpy (gl M k1) (gl M k2) (0 : Int32).toNatClampNeg (0 : Int32).toNatClampNeg (Int32.ofNat n).toNatClampNeg)) := by
    simp only [f_X8_copyLongs, f_J9_min_7cf53, h1, h2, c1, if_false, b_s1, nmq]; rw [g_t c3]
  refine ⟨_, e, fun j hj => ?_, fun k hk => ⟨rfl, ne_rr hk, rfl⟩⟩
  rw [gl_srl, if_pos rfl, c2]
  unfold va_cpy
  rw [if_pos ⟨Nat.zero_le _, by show j < 0 + n; omega⟩]
  show gl M k1 (0 + (j - 0)) = _
  rw [Nat.zero_add]; rfl
theorem c_wbecome {k0 k1 : Nat} {M : Mem} {ws : List Word} (h0 : isT 7 k0) (h1 : isT 7 k1) (hd : k0 + 4 ≤ k1 ∨ k1 + 4 ≤ k0) (h : cWs M k1 ws) (hl : ws.length ≤ 16) : ∃ M', f_X7_become k0 k1 M = some M' ∧ cWs M' k0 ws ∧ sameOn (fun k => k < k0 ∨ k0 + 4 ≤ k) M M' := by
  obtain ⟨M1, e1, r1, s1⟩ := c_copyL (M := M) (ra7_0 h1) (ra7_0 h0) (by omega)
  obtain ⟨M2, e2, r2, s2⟩ := c_copyI (M := M1) (ra7_1 h1) (ra7_1 h0) (by omega)
  obtain ⟨M3, e3, r3, s3⟩ := c_copyI (M := M2) (ra7_2 h1) (ra7_2 h0) (by omega)
  obtain ⟨q1, q2⟩ := h
  have w3 : gi M3 k1 3 = gi M k1 3 := by rw [(s3 k1 (by omega)).1, (s2 k1 (by omega)).1, (s1 k1 (by omega)).1]
  refine ⟨si M3 k0 3 (gi M3 k1 3), by simp only [f_X7_become, e1, e2, e3, b_s1, nmq], ⟨by rw [gi_si, if_pos ⟨rfl, rfl⟩, w3]; exact q1, fun w q hq => ?_⟩, ?_⟩
  · have hw : w < 16 := Nat.lt_of_lt_of_le (List.getElem?_eq_some_iff.mp hq).1 hl
    obtain ⟨a1, a2, a3⟩ := q2 w q hq
    refine ⟨?_, ?_, ?_⟩
    · rw [gl_si, (s3 (k0 + 1) (by omega)).2.1, (s2 (k0 + 1) (by omega)).2.1, r1 w hw]; exact a1
    · rw [gi_si, if_neg (by omega), (s3 (k0 + 2) (by omega)).1, r2 w hw, (s1 (k1 + 2) (by omega)).1]; exact a2
    · rw [gi_si, if_neg (by omega), r3 w hw, (s2 (k1 + 3) (by omega)).1, (s1 (k1 + 3) (by omega)).1]; exact a3
  · exact (((s1.mono (fun k hk => by omega)).tr (s2.mono (fun k hk => by omega))).tr (s3.mono (fun k hk => by omega))).tr (sameOn.si (by omega))
theorem c_pbecome {k0 k1 : Nat} {M : Mem} {ps : List Pat} (h0 : isT 4 k0) (h1 : isT 4 k1) (hd : k0 + 5 ≤ k1 ∨ k1 + 5 ≤ k0) (h : cPs M k1 ps) (hl : ps.length ≤ 8) : ∃ M', f_X4_become k0 k1 M = some M' ∧ cPs M' k0 ps ∧ sameOn (fun k => k < k0 ∨ k0 + 5 ≤ k) M M' := by
  obtain ⟨M1, e1, r1, s1⟩ := c_copyL (M := M) (ra4_0 h1) (ra4_0 h0) (by omega)
  obtain ⟨M2, e2, r2, s2⟩ := c_copyI (M := M1) (ra4_1 h1) (ra4_1 h0) (by omega)
  obtain ⟨M3, e3, r3, s3⟩ := c_copyI (M := M2) (ra4_2 h1) (ra4_2 h0) (by omega)
  obtain ⟨M4, e4, r4, s4⟩ := c_copyI (M := M3) (ra4_3 h1) (ra4_3 h0) (by omega)
  obtain ⟨q1, q2⟩ := h
  have w3 : gi M4 k1 4 = gi M k1 4 := by rw [(s4 k1 (by omega)).1, (s3 k1 (by omega)).1, (s2 k1 (by omega)).1, (s1 k1 (by omega)).1]
  refine ⟨si M4 k0 4 (gi M4 k1 4), by simp only [f_X4_become, e1, e2, e3, e4, b_s1, nmq], ⟨by rw [gi_si, if_pos ⟨rfl, rfl⟩, w3]; exact q1, fun w q hq => ?_⟩, ?_⟩
  · have hw : w < 8 := Nat.lt_of_lt_of_le (List.getElem?_eq_some_iff.mp hq).1 hl
    obtain ⟨a1, a2, a3, a4⟩ := q2 w q hq
    refine ⟨?_, ?_, ?_, ?_⟩
    · rw [gl_si, (s4 (k0 + 1) (by omega)).2.1, (s3 (k0 + 1) (by omega)).2.1, (s2 (k0 + 1) (by omega)).2.1, r1 w hw]; exact a1
    · rw [gi_si, if_neg (by omega), (s4 (k0 + 2) (by omega)).1, (s3 (k0 + 2) (by omega)).1, r2 w hw, (s1 (k1 + 2) (by omega)).1]; exact a2
    · rw [gi_si, if_neg (by omega), (s4 (k0 + 3) (by omega)).1, r3 w hw, (s2 (k1 + 3) (by omega)).1, (s1 (k1 + 3) (by omega)).1]; exact a3
    · rw [gi_si, if_neg (by omega), r4 w hw, (s3 (k1 + 4) (by omega)).1, (s2 (k1 + 4) (by omega)).1, (s1 (k1 + 4) (by omega)).1]; exact a4
  · exact ((((s1.mono (fun k hk => by omega)).tr (s2.mono (fun k hk => by omega))).tr (s3.mono (fun k hk => by omega))).tr (s4.mono (fun k hk => by omega))).tr (sameOn.si (by omega))
theorem c_become {p q : Nat} {M : Mem} {v : PV} (hp : isT 3 p) (hq : isT 3 q) (hd : p + 11 ≤ q ∨ q + 11 ≤ p) (h : cPar M q v) (hv : okV v) : ∃ M', f_X3_become p q M = some M' ∧ cPar M' p v ∧ sameOn (fun k => k < p ∨ p + 11 ≤ k) M M' := by
  obtain ⟨a1, a2, a3, a4⟩ := h
  obtain ⟨M1, e1, r1, s1⟩ := c_copyI (M := M) (ra3_0 hq) (ra3_0 hp) (by omega)
  obtain ⟨M2, e2, r2, s2⟩ := c_wbecome (M := M1) (rf3_1 hp) (rf3_1 hq) (by omega) (a1.same (s1.mono (fun k hk => by omega))) hv.1
  obtain ⟨M3, e3, r3, s3⟩ := c_pbecome (M := M2) (rf3_2 hp) (rf3_2 hq) (by omega) (a2.same ((s1.mono (fun k hk => by omega)).tr (s2.mono (fun k hk => by omega)))) hv.2.2.1
  have hq0 : ∀ j, gi M3 q j = gi M q j := fun j => by rw [(s3 q (by omega)).1, (s2 q (by omega)).1, (s1 q (by omega)).1]
  have hpq : ∀ {N : Mem} {j : Nat} {x : Int32}, ∀ i, gi (si N p j x) q i = gi N q i := fun i => by rw [gi_si, if_neg (by omega)]
  have hc : f_X3_become p q M = some (si (si (si (si (si (si (si (si (si (si M3 p 4 (gi M q 4)) p 5 (gi M q 5)) p 6 (gi M q 6)) p 3 (gi M q 3)) p 7 (gi M q 7)) p 8 (gi M q 8)) p 9 (gi M q 9)) p 10 (gi M q 10)) p 11 (gi M q 11)) p 12 (gi M q 12)) := by
    simp only [f_X3_become, f_X3_takeGlue, e1, e2, e3, b_s1, nmq, hpq, hq0]
  refine ⟨_, hc, ?_, ?_⟩
  · have hs : ∀ {x3 x4 x5 x6 x7 x8 x9 x10 x11 x12 : Int32}, sameOn (fun k => k ≠ p) M3 (si (si (si (si (si (si (si (si (si (si M3 p 4 x4) p 5 x5) p 6 x6) p 3 x3) p 7 x7) p 8 x8) p 9 x9) p 10 x10) p 11 x11) p 12 x12) := by
      intro x3 x4 x5 x6 x7 x8 x9 x10 x11 x12 k hk
      refine ⟨?_, rfl, rfl⟩
      funext b
      simp only [gi_si, hk, false_and, if_false]
    refine ⟨(r2.same (s3.mono (fun k hk => by omega))).same (hs.mono (fun k hk => by omega)), r3.same (hs.mono (fun k hk => by omega)), fun i hi => ?_, fun i hi => ?_⟩
    · rw [(hs (p + 1) (by omega)).1, (s3 (p + 1) (by omega)).1, (s2 (p + 1) (by omega)).1, r1 i hi]; exact a3 i hi
    · rw [← a4 i hi]
      rcases (show i = 0 ∨ i = 1 ∨ i = 2 ∨ i = 3 ∨ i = 4 ∨ i = 5 ∨ i = 6 ∨ i = 7 ∨ i = 8 ∨ i = 9 by omega) with rfl | rfl | rfl | rfl | rfl | rfl | rfl | rfl | rfl | rfl <;> simp (decide := true) only [gi_si, true_and, if_true, if_false, and_false, and_true]
  · refine ((((s1.mono (fun k hk => by omega)).tr (s2.mono (fun k hk => by omega))).tr (s3.mono (fun k hk => by omega)))).tr ?_
    intro k hk
    refine ⟨?_, rfl, rfl⟩
    funext b
    have : ¬ k = p := by omega
    simp only [gi_si, this, false_and, if_false]
