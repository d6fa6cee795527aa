/-! manner, kind, glue -/
theorem okS_up {v : PV} (h : okN v) {i : Nat} {z : Int} (hz : (i = 0 ∧ 10 ≤ z ∧ z ≤ 60) ∨ (i = 7 ∧ 0 ≤ z ∧ z ≤ 2) ∨ (i = 8 ∧ 0 ≤ z ∧ z ≤ 5) ∨ (i = 9 ∧ 0 ≤ z ∧ z ≤ 9)) : okN (setN v (up v.2.2.2 i z)) := by
  obtain ⟨⟨a1, a2, a3, a4, a5, hs⟩, h0⟩ := h
  rcases hz with ⟨rfl, q⟩ | ⟨rfl, q⟩ | ⟨rfl, q⟩ | ⟨rfl, q⟩
  · exact ⟨⟨a1, a2, a3, a4, a5, by unfold okS at hs; show okS (up _ _ _); unfold okS up; simp (decide := true) only [if_true, if_false]; omega⟩, by show z ≤ 60; omega⟩
  · exact ⟨⟨a1, a2, a3, a4, a5, by unfold okS at hs; show okS (up _ _ _); unfold okS up; simp (decide := true) only [if_true, if_false]; omega⟩, by show v.2.2.2 0 ≤ 60; exact h0⟩
  · exact ⟨⟨a1, a2, a3, a4, a5, by unfold okS at hs; show okS (up _ _ _); unfold okS up; simp (decide := true) only [if_true, if_false]; omega⟩, by show v.2.2.2 0 ≤ 60; exact h0⟩
  · exact ⟨⟨a1, a2, a3, a4, a5, by unfold okS at hs; show okS (up _ _ _); unfold okS up; simp (decide := true) only [if_true, if_false]; omega⟩, by show v.2.2.2 0 ≤ 60; exact h0⟩
theorem op_manner {M : Mem} (hI : Inv M) (p : Int32) : both M (f_X8_manner p) (f_X9_manner p) := by
  obtain ⟨z, z1, z2, rfl⟩ := iz_ex p
  have ef : f_X8_isOther (iz z) (3 : Int32) = _ := c_isOther (z := z) (n := 3) z1 z2 (by omega) (by omega)
  have eg : f_X9_isIn (iz z) (0 : Int32) (2 : Int32) = _ := m_isIn (z := z) (lo := 0) (hi := 2) z1 z2 (by omega) (by omega) (by omega) (by omega)
  have hf' : ∀ M, f_X8_manner (iz z) M = _ := fun M => b1_some ef
  have hg' : ∀ M, f_X9_manner (iz z) M = _ := fun M => b1_some eg
  by_cases q : 0 ≤ z ∧ z < 3
  · rw [if_pos q] at hf'; rw [if_pos (by omega)] at hg'
    refine both_change hI ((hf' M).trans (if_pos rfl)) (fun M' => (hg' M').trans (if_neg (by decide))) (fun now hn _ _ => ⟨_, _, okS_up (i := 7) hn (by omega), (ch_num (i := 7) hn.1 (by omega) z).1, (ch_num (i := 7) hn.1 (by omega) z).2⟩)
  · rw [if_neg q] at hf'; rw [if_neg (by omega)] at hg'
    refine both_no hI (v := 2) (by omega) ((hf' M).trans ?_) (fun M' => (hg' M').trans ?_)
    · show (if (1 : Int32) = 0 then _ else _) = _
      rw [if_neg (by decide), b2_id]; rfl
    · show (if (0 : Int32) = 0 then _ else _) = _
      rw [if_pos rfl, b2_id]; rfl
theorem ch_kind {v : PV} (hv : okN v) (z y : Int) (hz : 0 ≤ z ∧ z ≤ 5) :
    chC (fun (M7 : Mem) => nmq ((((10 : Int32) * (gi M7 1 11)) + (gi M7 1 12))) (fun (x9 : Int32) => nmq (si M7 1 11 (iz z)) (fun (M10 : Mem) => nmq (si M10 1 12 (iz y)) (fun (M11 : Mem) => some (x9, M11))))) v (setN v (up (up v.2.2.2 8 z) 9 y)) (iz 10 * iz (v.2.2.2 8) + iz (v.2.2.2 9)) ∧
    chM (fun (M6 : Mem) => nmq ((((10 : Int32) * (gi M6 139 19)) + (gi M6 139 20))) (fun (x8 : Int32) => nmq (si M6 139 19 (iz z)) (fun (M9 : Mem) => nmq (si M9 139 20 (iz y)) (fun (M10 : Mem) => some (x8, M10))))) v (setN v (up (up v.2.2.2 8 z) 9 y)) (iz 10 * iz (v.2.2.2 8) + iz (v.2.2.2 9)) := by
  have h1 := okS_up (i := 8) (z := z) hv (by omega)
  refine ⟨fun M h => ⟨si (si M 1 11 (iz z)) 1 12 (iz y), ?_, (h.num (i := 8) (z := z)).num (i := 9) (z := y), (sameOn.si (by omega)).tr (sameOn.si (by omega))⟩, fun M h => ⟨si (si M 139 19 (iz z)) 139 20 (iz y), ?_, (h.num hv.1 (i := 8) (z := z) (by omega)).num h1.1 (i := 9) (z := y) (by omega), (sameOn.si (by omega)).tr (sameOn.si (by omega)), fun j hj => by rw [gi_si, if_neg (by omega), gi_si, if_neg (by omega)]⟩⟩
  · show some ((10 : Int32) * (gi M 1 (3 + 8)) + gi M 1 (3 + 9), _) = _
    rw [h.at' (by omega : 8 < 10), h.at' (by omega : 9 < 10)]; rfl
  · show some ((10 : Int32) * (gi M 139 (11 + 8)) + gi M 139 (11 + 9), _) = _
    rw [h.at' (by omega : 8 < 10), h.at' (by omega : 9 < 10)]; rfl
theorem op_kind {M : Mem} (hI : Inv M) (p p' : Int32) : both M (f_X8_kind p p') (f_X9_kind p p') := by
  obtain ⟨z, z1, z2, rfl⟩ := iz_ex p
  obtain ⟨y, y1, y2, rfl⟩ := iz_ex p'
  have ef : f_X8_isOther (iz z) (6 : Int32) = _ := c_isOther (z := z) (n := 6) z1 z2 (by omega) (by omega)
  have eg : f_X9_isIn (iz z) (0 : Int32) (5 : Int32) = _ := m_isIn (z := z) (lo := 0) (hi := 5) z1 z2 (by omega) (by omega) (by omega) (by omega)
  have ef2 : f_X8_outside (iz y) (0 : Int32) (9 : Int32) = _ := c_outside (z := y) (lo := 0) (hi := 9) y1 y2 (by omega) (by omega) (by omega) (by omega)
  have eg2 : f_X9_bound (iz y) (0 : Int32) (9 : Int32) = _ := m_bound (z := y) (lo := 0) (hi := 9) y1 y2 (by omega) (by omega) (by omega) (by omega)
  have hf' : ∀ M, f_X8_kind (iz z) (iz y) M = _ := fun M => b1_some ef
  have hg' : ∀ M, f_X9_kind (iz z) (iz y) M = _ := fun M => b1_some eg
  by_cases q : 0 ≤ z ∧ z < 6
  · rw [if_pos q] at hf'; rw [if_pos (show 0 ≤ z ∧ z ≤ 5 by omega)] at hg'
    have hf2 : ∀ M, f_X8_kind (iz z) (iz y) M = _ := fun M => ((hf' M).trans (if_pos rfl)).trans (b1_some ef2)
    have hg2 : ∀ M, f_X9_kind (iz z) (iz y) M = _ := fun M => (hg' M).trans (b1_some ((if_neg (by decide)).trans (b1_some eg2)))
    by_cases q1 : y < 0
    · rw [if_pos q1] at hf2 hg2
      refine both_no hI (v := 4) (by omega) ((hf2 M).trans ?_) (fun M' => (hg2 M').trans ?_)
      · show (if (iz (-4 : Int)) = 0 then _ else _) = _
        rw [if_neg (by decide), b2_id]; rfl
      · show (if (iz (-4 : Int)) = 0 then _ else _) = _
        rw [if_neg (by decide), b2_id]; rfl
    by_cases q2 : 9 < y
    · rw [if_neg q1, if_pos q2] at hf2 hg2
      refine both_no hI (v := 6) (by omega) ((hf2 M).trans ?_) (fun M' => (hg2 M').trans ?_)
      · show (if (iz (-6 : Int)) = 0 then _ else _) = _
        rw [if_neg (by decide), b2_id]; rfl
      · show (if (iz (-6 : Int)) = 0 then _ else _) = _
        rw [if_neg (by decide), b2_id]; rfl
    rw [if_neg q1, if_neg q2] at hf2 hg2
    refine both_change hI ((hf2 M).trans (if_pos rfl)) (fun M' => (hg2 M').trans (if_pos rfl)) (fun now hn _ _ => ⟨_, _, okS_up (v := setN now (up now.2.2.2 8 z)) (i := 9) (okS_up (i := 8) hn (by omega)) (by omega), (ch_kind hn z y (by omega)).1, (ch_kind hn z y (by omega)).2⟩)
  · rw [if_neg q] at hf'; rw [if_neg (show ¬ (0 ≤ z ∧ z ≤ 5) by omega)] at hg'
    refine both_no hI (v := 2) (by omega) ((hf' M).trans ?_) (fun M' => (hg' M').trans ?_)
    · show (if (1 : Int32) = 0 then _ else _) = _
      rw [if_neg (by decide), b2_id]; rfl
    · rw [b1_some (if_pos rfl)]
      show (if (-2 : Int32) = 0 then _ else _) = _
      rw [if_neg (by decide), b2_id]; rfl
theorem rdNow_far {M M' : Mem} (h : ∀ k, 141 ≤ k ∧ k < 149 → gi M' k = gi M k) (hj : ∀ j, j < 11 → gi M' 139 j = gi M 139 j) (o : Nat) (ho : o < 282) : rdNow M' o = rdNow M o := by
  unfold rdNow
  rw [h 141 (by omega), h 142 (by omega), h 143 (by omega), h 144 (by omega), h 145 (by omega), h 146 (by omega), h 147 (by omega), h 148 (by omega), hj (o - 280 + 9) (by omega)]
theorem ch_glue {v : PV} (hv : okN v) (x y z : Int) :
    chC (fun (M4 : Mem) => nmq (((((100 : Int32) * (gi M4 1 4)) + ((10 : Int32) * (gi M4 1 5))) + (gi M4 1 6))) (fun (x6 : Int32) => bq1 (f_X3_takeGlue 1 (iz x) (iz y) (iz z) M4) (fun (M7 : Mem) => some (x6, M7)))) v (setN v (up (up (up v.2.2.2 1 x) 2 y) 3 z)) (iz 100 * iz (v.2.2.2 1) + iz 10 * iz (v.2.2.2 2) + iz (v.2.2.2 3)) ∧
    chM (fun (M4 : Mem) => nmq (((((100 : Int32) * (gi M4 139 12)) + ((10 : Int32) * (gi M4 139 13))) + (gi M4 139 14))) (fun (x6 : Int32) => nmq (si M4 139 12 (iz x)) (fun (M7 : Mem) => nmq (si M7 139 13 (iz y)) (fun (M8 : Mem) => nmq (si M8 139 14 (iz z)) (fun (M9 : Mem) => some (x6, M9)))))) v (setN v (up (up (up v.2.2.2 1 x) 2 y) 3 z)) (iz 100 * iz (v.2.2.2 1) + iz 10 * iz (v.2.2.2 2) + iz (v.2.2.2 3)) := by
  refine ⟨fun M h => ⟨si (si (si M 1 4 (iz x)) 1 5 (iz y)) 1 6 (iz z), ?_, ((h.num (i := 1) (z := x)).num (i := 2) (z := y)).num (i := 3) (z := z), ((sameOn.si (by omega)).tr (sameOn.si (by omega))).tr (sameOn.si (by omega))⟩, fun M h => ⟨si (si (si M 139 12 (iz x)) 139 13 (iz y)) 139 14 (iz z), ?_, ?_, ((sameOn.si (by omega)).tr (sameOn.si (by omega))).tr (sameOn.si (by omega)), fun j hj => by rw [gi_si, if_neg (by omega), gi_si, if_neg (by omega), gi_si, if_neg (by omega)]⟩⟩
  · show some ((100 : Int32) * (gi M 1 (3 + 1)) + (10 : Int32) * gi M 1 (3 + 2) + gi M 1 (3 + 3), _) = _
    rw [h.at' (by omega : 1 < 10), h.at' (by omega : 2 < 10), h.at' (by omega : 3 < 10)]; rfl
  · show some ((100 : Int32) * (gi M 139 (11 + 1)) + (10 : Int32) * gi M 139 (11 + 2) + gi M 139 (11 + 3), _) = _
    rw [h.at' (by omega : 1 < 10), h.at' (by omega : 2 < 10), h.at' (by omega : 3 < 10)]; rfl
  · refine h.upN hv.1 (fun o ho => ?_) (fun j hj => ?_)
    · refine (rdNow_far (fun k hk => ?_) (fun j hj => ?_) o ho)
      · funext i; rw [gi_si, if_neg (by omega), gi_si, if_neg (by omega), gi_si, if_neg (by omega)]
      · rw [gi_si, if_neg (by omega), gi_si, if_neg (by omega), gi_si, if_neg (by omega)]
    · rw [rd_fld (j := 11 + j) _ (by omega) (by omega), gi_si, gi_si, gi_si]
      have h0 := h.at' hj
      unfold up
      by_cases q3 : j = 3
      · rw [if_pos q3, if_pos (by omega)]
      by_cases q2 : j = 2
      · rw [if_neg q3, if_neg (by omega), if_pos q2, if_pos (by omega)]
      by_cases q1 : j = 1
      · rw [if_neg q3, if_neg (by omega), if_neg q2, if_neg (by omega), if_pos q1, if_pos (by omega)]
      rw [if_neg q3, if_neg (by omega), if_neg q2, if_neg (by omega), if_neg q1, if_neg (by omega)]; exact h0
theorem op_glue {M : Mem} (hI : Inv M) (p q r : Int32) : both M (f_X8_glue p q r) (f_X9_glue p q r) := by
  obtain ⟨x, x1, x2, rfl⟩ := iz_ex p
  obtain ⟨y, y1, y2, rfl⟩ := iz_ex q
  obtain ⟨z, z1, z2, rfl⟩ := iz_ex r
  obtain ⟨c, hc⟩ : ∃ c : Int32, c = (if iz x < (2 : Int32) then ((-4 : Int32)) else (if iz y < 0 then ((-4 : Int32)) else (if 0 ≤ iz z then (if (9 : Int32) < iz x then ((-6 : Int32)) else (if (9 : Int32) < iz y then ((-6 : Int32)) else (if iz z ≤ iz x then ((0 : Int32)) else ((-6 : Int32))))) else ((-4 : Int32))))) := ⟨_, rfl⟩
  have ef : f_X8_glueFault (iz x) (iz y) (iz z) = some c := by
    rw [hc]; unfold f_X8_glueFault
    (repeat' split) <;> first | rfl | contradiction
  have hf' : ∀ M, f_X8_glue (iz x) (iz y) (iz z) M = _ := fun M => b1_some ef
  have hg' : ∀ M, f_X9_glue (iz x) (iz y) (iz z) M = (if c = 0 then (bq1 (f_X9_remembers M) (fun (M4 : Mem) => nmq (((((100 : Int32) * (gi M4 139 12)) + ((10 : Int32) * (gi M4 139 13))) + (gi M4 139 14))) (fun (x6 : Int32) => nmq (si M4 139 12 (iz x)) (fun (M7 : Mem) => nmq (si M7 139 13 (iz y)) (fun (M8 : Mem) => nmq (si M8 139 14 (iz z)) (fun (M9 : Mem) => some (x6, M9))))))) else (bq2 (f_X9_no c M) (fun (x10 : Int32) (M11 : Mem) => some (x10, M11)))) := fun M => by rw [hc]; rfl
  have hcs : c = -4 ∨ c = -6 ∨ (c = 0 ∧ 2 ≤ x ∧ x ≤ 9 ∧ 0 ≤ y ∧ y ≤ 9 ∧ 0 ≤ z ∧ z ≤ x) := by
    by_cases a1 : x < 2
    · left; rw [hc, if_pos (show iz x < (2 : Int32) from lt_iz (b := 2) x1 x2 (by omega) (by omega) a1)]
    rw [if_neg (show ¬ iz x < (2 : Int32) from nlt_iz (b := 2) x1 x2 (by omega) (by omega) a1)] at hc
    by_cases a2 : y < 0
    · left; rw [hc, if_pos (show iz y < (0 : Int32) from lt_iz (b := 0) y1 y2 (by omega) (by omega) a2)]
    rw [if_neg (show ¬ iz y < (0 : Int32) from nlt_iz (b := 0) y1 y2 (by omega) (by omega) a2)] at hc
    by_cases a3 : 0 ≤ z
    · rw [if_pos (show (0 : Int32) ≤ iz z from le_iz (a := 0) (by omega) (by omega) z1 z2 a3)] at hc
      by_cases a4 : 9 < x
      · right; left; rw [hc, if_pos (show (9 : Int32) < iz x from lt_iz (a := 9) (by omega) (by omega) x1 x2 a4)]
      rw [if_neg (show ¬ (9 : Int32) < iz x from nlt_iz (a := 9) (by omega) (by omega) x1 x2 a4)] at hc
      by_cases a5 : 9 < y
      · right; left; rw [hc, if_pos (show (9 : Int32) < iz y from lt_iz (a := 9) (by omega) (by omega) y1 y2 a5)]
      rw [if_neg (show ¬ (9 : Int32) < iz y from nlt_iz (a := 9) (by omega) (by omega) y1 y2 a5)] at hc
      by_cases a6 : z ≤ x
      · right; right; rw [hc, if_pos (le_iz z1 z2 x1 x2 a6)]; exact ⟨rfl, by omega, by omega, by omega, by omega, a3, a6⟩
      · right; left; rw [hc, if_neg (nle_iz z1 z2 x1 x2 a6)]
    · left; rw [hc, if_neg (show ¬ (0 : Int32) ≤ iz z from nle_iz (a := 0) (by omega) (by omega) z1 z2 a3)]
  clear hc
  rcases hcs with rfl | rfl | ⟨rfl, hb⟩
  · refine both_no hI (v := 4) (by omega) ((hf' M).trans ?_) (fun M' => (hg' M').trans ?_)
    · show (if (-4 : Int32) = 0 then _ else _) = _
      rw [if_neg (by decide), b2_id]; rfl
    · rw [if_neg (by decide), b2_id]; rfl
  · refine both_no hI (v := 6) (by omega) ((hf' M).trans ?_) (fun M' => (hg' M').trans ?_)
    · show (if (-6 : Int32) = 0 then _ else _) = _
      rw [if_neg (by decide), b2_id]; rfl
    · rw [if_neg (by decide), b2_id]; rfl
  · refine both_change hI ((hf' M).trans (if_pos rfl)) (fun M' => (hg' M').trans (if_pos rfl)) (fun now hn _ _ => ⟨_, _, hn.up ?_ ?_, (ch_glue hn x y z).1, (ch_glue hn x y z).2⟩)
    · obtain ⟨⟨_, _, _, _, _, hs⟩, _⟩ := hn
      unfold okS at hs; unfold okS up; simp (decide := true) only [if_true, if_false]; omega
    · exact hn.2
