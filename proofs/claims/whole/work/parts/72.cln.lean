/-! the class measures a line -/
theorem gf_sf' (M : Mem) (k j k' j' : Nat) (v : UInt32) : gf (sf M k j v) k' j' = if k' = k ∧ j' = j then v else gf M k' j' := rfl
def cMs (M : Mem) (s : Nat → Int) : Prop := gi M 127 10 = iz (s 0) ∧ gi M 127 11 = iz (s 1) ∧ gi M 127 12 = iz (strV s) ∧ gi M 127 13 = iz (shrV s) ∧ gi M 127 14 = iz (penV s) ∧ gi M 127 15 = iz (s 7) ∧ gi M 127 16 = iz (s 6) ∧ gf M 127 17 = looV s
def gW (F : List Fr) (i j : Nat) : Int := if j = i then 0 else gV F i j
def cLn (M : Mem) (F : List Fr) (s : Nat → Int) (i j : Nat) : Prop := gi M 127 1 = iz (i : Int) ∧ gi M 127 2 = iz ((j : Int) - 1) ∧ gi M 127 7 = iz ((if 0 < i then fe F (i - 1) else 0 : Nat) : Int) ∧ gi M 127 8 = iz (wS F j - wS F i) ∧ gi M 127 9 = iz (gW F i j) ∧ (i < j → gi M 127 5 = iz (fe F (j - 1) : Int) ∧ gi M 127 3 = iz ((fn F (j - 1) : Int) - (fn F i : Int) + 1) ∧ gi M 127 4 = iz (natV F s i j) ∧ gf M 127 6 = ratV F s i j)
theorem cMs.same {M M' : Mem} {s : Nat → Int} (h : cMs M s) (hs : sameOn (fun k => k = 127) M M') : cMs M' s := by
  unfold cMs
  rw [(hs 127 rfl).1, (hs 127 rfl).2.2]; exact h
theorem cLn.same {M M' : Mem} {F : List Fr} {s : Nat → Int} {i j : Nat} (h : cLn M F s i j) (hs : sameOn (fun k => k = 127) M M') : cLn M' F s i j := by
  unfold cLn
  rw [(hs 127 rfl).1, (hs 127 rfl).2.2]; exact h
theorem cFr.at' {M : Mem} {F : List Fr} (h : cFr M F) {i : Nat} (hi : i < F.length) : gi M 129 i = iz (fw F i) ∧ gi M 130 i = iz (fn F i : Int) ∧ gi M 131 i = iz (fe F i : Int) := by
  have e := List.getElem?_eq_getElem hi
  obtain ⟨a1, a2, a3⟩ := fw_at e
  rw [a1, a2, a3]; exact h.2 i _ e
theorem c_str {M : Mem} {p : Nat} {v : PV} (hv : okV v) (h : cPar M p v) : f_X3_stretchOfGlue p M = some (iz (strV v.2.2.2)) := by
  have e8 : gi M p 11 = iz (v.2.2.2 8) := h.at' (i := 8) (by omega)
  have e9 : gi M p 12 = iz (v.2.2.2 9) := h.at' (i := 9) (by omega)
  have e2 : gi M p 5 = iz (v.2.2.2 2) := h.at' (i := 2) (by omega)
  have ok8 := hv.2.2.2.2.2.2.2.2.2.2.2.2.2.1
  unfold f_X3_stretchOfGlue strV
  rw [e8, e9, e2, iz_add]
  have n5 : ∀ {t : Int}, 0 ≤ t → t ≤ 5 → t ≠ 5 → ¬ iz t = (5 : Int32) := fun h1 h2 h3 => neq_iz (b := 5) (by omega) (by omega) (by omega) (by omega) h3
  have n1 : ∀ {t : Int}, 0 ≤ t → t ≤ 5 → t ≠ 1 → ¬ iz t = (1 : Int32) := fun h1 h2 h3 => neq_iz (b := 1) (by omega) (by omega) (by omega) (by omega) h3
  have n3 : ∀ {t : Int}, 0 ≤ t → t ≤ 5 → t ≠ 3 → ¬ iz t = (3 : Int32) := fun h1 h2 h3 => neq_iz (b := 3) (by omega) (by omega) (by omega) (by omega) h3
  by_cases q5 : v.2.2.2 8 = 5
  · rw [q5]; simp (decide := true) only [if_true, jq, show (2 : Int32) = iz (2 : Int) from rfl, iz_mul]
  · have c5 := n5 ok8.1 ok8.2 q5
    by_cases q1 : v.2.2.2 8 = 1
    · rw [q1]; simp (decide := true) only [if_true, if_false, jq, true_or]
    · have c1 := n1 ok8.1 ok8.2 q1
      by_cases q3 : v.2.2.2 8 = 3
      · rw [q3]; simp (decide := true) only [if_true, if_false, jq, or_true]
      · have c3 := n3 ok8.1 ok8.2 q3
        simp only [c5, c1, c3, q5, q1, q3, if_false, jq, or_self]
theorem c_tight {M : Mem} {p : Nat} {v : PV} (hv : okV v) (h : cPar M p v) : f_X3_isTight p M = some (if v.2.2.2 8 = 2 ∨ v.2.2.2 8 = 4 then 1 else 0) := by
  have e8 : gi M p 11 = iz (v.2.2.2 8) := h.at' (i := 8) (by omega)
  have ok8 := hv.2.2.2.2.2.2.2.2.2.2.2.2.2.1
  unfold f_X3_isTight
  rw [e8]
  by_cases q2 : v.2.2.2 8 = 2
  · rw [if_pos (show iz (v.2.2.2 8) = (2 : Int32) by rw [q2]; rfl), if_pos (Or.inl q2)]
  rw [if_neg (show ¬ iz (v.2.2.2 8) = (2 : Int32) from neq_iz (b := 2) (by omega) (by omega) (by omega) (by omega) q2)]
  by_cases q4 : v.2.2.2 8 = 4
  · rw [if_pos (show iz (v.2.2.2 8) = (4 : Int32) by rw [q4]; rfl), if_pos (Or.inr q4)]
  · rw [if_neg (show ¬ iz (v.2.2.2 8) = (4 : Int32) from neq_iz (b := 4) (by omega) (by omega) (by omega) (by omega) q4), if_neg (by omega)]
theorem c_shr {M : Mem} {p : Nat} {v : PV} (hv : okV v) (h : cPar M p v) : f_X3_shrinkOfGlue p M = some (iz (shrV v.2.2.2)) := by
  have e1 : gi M p 4 = iz (v.2.2.2 1) := h.at' (i := 1) (by omega)
  have e3 : gi M p 6 = iz (v.2.2.2 3) := h.at' (i := 3) (by omega)
  have hs := hv.2.2.2.2.2
  have ok1 := hs.2.1
  have ok3 := hs.2.2.2.1
  unfold f_X3_shrinkOfGlue shrV
  rw [c_tight hv h, b_s1, e1, e3]
  by_cases q : v.2.2.2 8 = 2 ∨ v.2.2.2 8 = 4
  · rw [if_pos q, if_neg (by decide), if_pos q]
    have e : f_J9_min_7cf53 (iz (v.2.2.2 3) + (1 : Int32)) (iz (v.2.2.2 1)) = some (iz (if v.2.2.2 1 ≤ v.2.2.2 3 then v.2.2.2 1 else v.2.2.2 3 + 1)) := by
      unfold f_J9_min_7cf53
      rw [show (1 : Int32) = iz (1 : Int) from rfl, iz_add]
      by_cases r : v.2.2.2 1 ≤ v.2.2.2 3
      · rw [if_pos (lt_iz (by omega) (by omega) (by omega) (by omega) (by omega)), if_pos r]
      · rw [if_neg (nlt_iz (by omega) (by omega) (by omega) (by omega) (by omega)), if_neg r]
    rw [e, b_s1]
  · rw [if_neg q, if_pos rfl, if_neg q]
theorem c_pen {M : Mem} {p : Nat} {v : PV} (hv : okV v) (h : cPar M p v) : f_X3_penaltyOfHyphen p M = some (iz (penV v.2.2.2)) := by
  have e8 : gi M p 11 = iz (v.2.2.2 8) := h.at' (i := 8) (by omega)
  have e5 : gi M p 8 = iz (v.2.2.2 5) := h.at' (i := 5) (by omega)
  have e9 : gi M p 12 = iz (v.2.2.2 9) := h.at' (i := 9) (by omega)
  have hs := hv.2.2.2.2.2
  have ok8 := hs.2.2.2.2.2.2.2.2.1
  have ok5 := hs.2.2.2.2.2.1
  have K : iz (v.2.2.2 5) / (2 : Int32) = iz (v.2.2.2 5 / 2) := iz_div (b := 2) (by omega) (by omega) (by omega) (by omega)
  unfold f_X3_penaltyOfHyphen penV
  rw [e8, e5, e9, iz_add]
  by_cases q5 : v.2.2.2 8 = 5
  · rw [if_pos (show iz (v.2.2.2 8) = (5 : Int32) by rw [q5]; rfl), if_neg (show ¬ (v.2.2.2 8 = 2 ∨ v.2.2.2 8 = 4) by omega), if_pos q5]
  rw [if_neg (show ¬ iz (v.2.2.2 8) = (5 : Int32) from neq_iz (b := 5) (by omega) (by omega) (by omega) (by omega) q5), c_tight hv h, b_s1]
  by_cases q : v.2.2.2 8 = 2 ∨ v.2.2.2 8 = 4
  · rw [if_pos q, if_neg (by decide), if_pos q, K]
  · rw [if_neg q, if_pos rfl, if_neg q, if_neg q5]
theorem c_measure {M : Mem} {p : Nat} (hp : p = 1 ∨ p = 12) {v : PV} (hv : okV v) (h : cPar M p v) : ∃ M', f_X2_measureBy p M = some M' ∧ cMs M' v.2.2.2 ∧ sameOn (fun k => k ≠ 127) M M' := by
  have hs := hv.2.2.2.2.2
  obtain ⟨l1, l2⟩ := loo_b hs
  have hsi : ∀ (N : Mem) (j : Nat) (x : Int32), sameOn (fun k => k ≠ 127) N (si N 127 j x) := fun N j x => sameOn.si (by omega)
  have hcp : ∀ N, sameOn (fun k => k ≠ 127) M N → cPar N p v := fun N hN => h.same (hN.mono (fun k hk => by omega))
  have g : ∀ N, sameOn (fun k => k ≠ 127) M N → ∀ i, i < 10 → gi N p (3 + i) = iz (v.2.2.2 i) := fun N hN i hi => (hcp N hN).at' hi
  obtain ⟨M1, e1⟩ : ∃ M1, M1 = si M 127 10 (iz (v.2.2.2 0)) := ⟨_, rfl⟩
  obtain ⟨M2, e2⟩ : ∃ M2, M2 = si M1 127 11 (iz (v.2.2.2 1)) := ⟨_, rfl⟩
  obtain ⟨M3, e3⟩ : ∃ M3, M3 = si M2 127 12 (iz (strV v.2.2.2)) := ⟨_, rfl⟩
  obtain ⟨M4, e4⟩ : ∃ M4, M4 = si M3 127 13 (iz (shrV v.2.2.2)) := ⟨_, rfl⟩
  obtain ⟨M5, e5⟩ : ∃ M5, M5 = si M4 127 14 (iz (penV v.2.2.2)) := ⟨_, rfl⟩
  obtain ⟨M6, e6⟩ : ∃ M6, M6 = si M5 127 15 (iz (v.2.2.2 7)) := ⟨_, rfl⟩
  obtain ⟨M7, e7⟩ : ∃ M7, M7 = si M6 127 16 (iz (v.2.2.2 6)) := ⟨_, rfl⟩
  have s1 : sameOn (fun k => k ≠ 127) M M1 := by rw [e1]; exact hsi _ _ _
  have s2 : sameOn (fun k => k ≠ 127) M M2 := by rw [e2]; exact s1.tr (hsi _ _ _)
  have s3 : sameOn (fun k => k ≠ 127) M M3 := by rw [e3]; exact s2.tr (hsi _ _ _)
  have s4 : sameOn (fun k => k ≠ 127) M M4 := by rw [e4]; exact s3.tr (hsi _ _ _)
  have s5 : sameOn (fun k => k ≠ 127) M M5 := by rw [e5]; exact s4.tr (hsi _ _ _)
  have s6 : sameOn (fun k => k ≠ 127) M M6 := by rw [e6]; exact s5.tr (hsi _ _ _)
  have s7 : sameOn (fun k => k ≠ 127) M M7 := by rw [e7]; exact s6.tr (hsi _ _ _)
  refine ⟨sf M7 127 17 (looV v.2.2.2), ?_, ?_, s7.tr (sameOn.sf (by omega))⟩
  · unfold f_X2_measureBy
    have g0 := g M sameOn.rf 0 (by omega)
    have g1 := g M1 s1 1 (by omega)
    have g7 := g M5 s5 7 (by omega)
    have g6 := g M6 s6 6 (by omega)
    have g4 := g M7 s7 4 (by omega)
    rw [g0, nmq_q, ← e1, g1, nmq_q, ← e2, c_str hv (hcp M2 s2), b_s1, nmq_q, ← e3, c_shr hv (hcp M3 s3), b_s1, nmq_q, ← e4, c_pen hv (hcp M4 s4), b_s1, nmq_q, ← e5, g7, nmq_q, ← e6, g6, nmq_q, ← e7, g4, nmq_q]
    show gq (nN (looV v.2.2.2)) _ = _
    rw [g_t (nN_of (nn_ne l1)), nmq_q]; rfl
  · unfold cMs
    refine ⟨?_, ?_, ?_, ?_, ?_, ?_, ?_, ?_⟩
    · rw [gi_sf, e7, gi_si, if_neg (by omega), e6, gi_si, if_neg (by omega), e5, gi_si, if_neg (by omega), e4, gi_si, if_neg (by omega), e3, gi_si, if_neg (by omega), e2, gi_si, if_neg (by omega), e1, gi_si, if_pos ⟨rfl, rfl⟩]
    · rw [gi_sf, e7, gi_si, if_neg (by omega), e6, gi_si, if_neg (by omega), e5, gi_si, if_neg (by omega), e4, gi_si, if_neg (by omega), e3, gi_si, if_neg (by omega), e2, gi_si, if_pos ⟨rfl, rfl⟩]
    · rw [gi_sf, e7, gi_si, if_neg (by omega), e6, gi_si, if_neg (by omega), e5, gi_si, if_neg (by omega), e4, gi_si, if_neg (by omega), e3, gi_si, if_pos ⟨rfl, rfl⟩]
    · rw [gi_sf, e7, gi_si, if_neg (by omega), e6, gi_si, if_neg (by omega), e5, gi_si, if_neg (by omega), e4, gi_si, if_pos ⟨rfl, rfl⟩]
    · rw [gi_sf, e7, gi_si, if_neg (by omega), e6, gi_si, if_neg (by omega), e5, gi_si, if_pos ⟨rfl, rfl⟩]
    · rw [gi_sf, e7, gi_si, if_neg (by omega), e6, gi_si, if_pos ⟨rfl, rfl⟩]
    · rw [gi_sf, e7, gi_si, if_pos ⟨rfl, rfl⟩]
    · rw [gf_sf', if_pos ⟨rfl, rfl⟩]
theorem c_begin {M : Mem} {F : List Fr} {s : Nat → Int} (hF : cFr M F) (hm : cMs M s) (hl : F.length ≤ 160) {i : Nat} (hi : i ≤ F.length) : ∃ M', f_X2_beginAt (iz (i : Int)) M = some M' ∧ cLn M' F s i i ∧ cMs M' s ∧ sameOn (fun k => k ≠ 127) M M' := by
  have a131 : alen 131 = 192 := rfl
  have e1 : iz (i : Int) - (1 : Int32) = iz ((i : Int) - 1) := by rw [show (1 : Int32) = iz (1 : Int) from rfl, iz_sub]
  obtain ⟨M2, e2⟩ : ∃ M2, M2 = si (si M 127 1 (iz (i : Int))) 127 2 (iz ((i : Int) - 1)) := ⟨_, rfl⟩
  have s2 : sameOn (fun k => k ≠ 127) M M2 := by rw [e2]; exact (sameOn.si (by omega)).tr (sameOn.si (by omega))
  have ea : (if iz (i : Int) ≤ 0 then (some ((0 : Int32))) else (bq1 (f_X8_at 131 (iz (i : Int) - (1 : Int32)) M2) (fun (x10 : Int32) => (some (x10))))) = some (iz ((if 0 < i then fe F (i - 1) else 0 : Nat) : Int)) := by
    by_cases q : 0 < i
    · have hF2 : cFr M2 F := hF.same (s2.mono (fun k hk => by omega))
      rw [if_neg (fun e => by have := (pos_iz (by omega) (by omega)).mp e; omega), iz_m1n (by omega), c_at a131 (by omega) (by omega), b_s1, (hF2.at' (i := i - 1) (by omega)).2.2, if_pos q]
    · rw [if_pos ((pos_iz (by omega) (by omega)).mpr (by omega)), if_neg q]; rfl
  obtain ⟨M', e3⟩ : ∃ M', M' = si (si (si M2 127 7 (iz ((if 0 < i then fe F (i - 1) else 0 : Nat) : Int))) 127 8 (0 : Int32)) 127 9 (0 : Int32) := ⟨_, rfl⟩
  have g : ∀ j, gi M' 127 j = if j = 9 then (0 : Int32) else if j = 8 then (0 : Int32) else if j = 7 then iz ((if 0 < i then fe F (i - 1) else 0 : Nat) : Int) else if j = 2 then iz ((i : Int) - 1) else if j = 1 then iz (i : Int) else gi M 127 j := fun j => by
    rw [e3, e2, gi_si, gi_si, gi_si, gi_si, gi_si]
    simp only [true_and]
  have gf' : gf M' 127 = gf M 127 := by rw [e3, e2]; rfl
  refine ⟨M', ?_, ⟨?_, ?_, ?_, ?_, ?_, fun h => by omega⟩, ?_, ?_⟩
  · unfold f_X2_beginAt
    rw [nmq_q, nmq_q, e1, ← e2, ← e1, ea, b_s1, nmq_q, nmq_q, nmq_q, ← e3]
  · rw [g]; rfl
  · rw [g]; rfl
  · rw [g]; rfl
  · rw [g, Int.sub_self]; rfl
  · have e0 : gW F i i = 0 := if_pos rfl
    rw [g, e0]; rfl
  · unfold cMs
    rw [gf', g, g, g, g, g, g, g]
    exact hm
  · rw [e3]; exact s2.tr (((sameOn.si (by omega)).tr (sameOn.si (by omega))).tr (sameOn.si (by omega)))
