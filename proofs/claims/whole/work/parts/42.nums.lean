/-! the numbers of a paragraph set -/
def setN (v : PV) (f : Nat → Int) : PV := (v.1, v.2.1, v.2.2.1, f)
def up (f : Nat → Int) (i : Nat) (z : Int) : Nat → Int := fun j => if j = i then z else f j
theorem mPar.upN {rd rd' : Nat → Int32} {v : PV} {f : Nat → Int} (hv : okV v) (h : mPar rd v) (hs : ∀ o, o < 282 → rd' o = rd o) (hn : ∀ i, i < 10 → rd' (282 + i) = iz (f i)) : mPar rd' (setN v f) := by
  obtain ⟨h1, h2, h3, h4, h5, h6⟩ := h
  obtain ⟨v1, v2, v3, v4, v5, v6⟩ := hv
  refine ⟨by rw [hs _ (by omega)]; exact h1, fun w q hq => ?_, by rw [hs _ (by omega)]; exact h3, fun w q hq => ?_, fun i hi => by rw [hs _ (by omega)]; exact h5 i hi, hn⟩
  · have hq : v.1[w]? = some q := hq
    have hw : w < 16 := Nat.lt_of_lt_of_le (List.getElem?_eq_some_iff.mp hq).1 v1
    obtain ⟨a1, a2, a3⟩ := h2 w q hq
    refine ⟨by rw [hs _ (by omega)]; exact a1, fun k a hk => ?_, by rw [hs _ (by omega)]; exact a3⟩
    have hk2 : k < 12 := Nat.lt_of_lt_of_le (List.getElem?_eq_some_iff.mp hk).1 (v2 q (List.mem_of_getElem? hq)).1.2.1
    rw [hs _ (by omega)]; exact a2 k a hk
  · have hq : v.2.1[w]? = some q := hq
    have hw : w < 8 := Nat.lt_of_lt_of_le (List.getElem?_eq_some_iff.mp hq).1 v3
    obtain ⟨a1, a2, a3, a4⟩ := h4 w q hq
    refine ⟨by rw [hs _ (by omega)]; exact a1, fun k a hk => ?_, by rw [hs _ (by omega)]; exact a3, by rw [hs _ (by omega)]; exact a4⟩
    have hk2 : k < 3 := Nat.lt_of_lt_of_le (List.getElem?_eq_some_iff.mp hk).1 (v4 q (List.mem_of_getElem? hq)).1.2.1
    rw [hs _ (by omega)]; exact a2 k a hk
theorem cPar.num {M : Mem} {p : Nat} {v : PV} (h : cPar M p v) {i : Nat} {z : Int} : cPar (si M p (3 + i) (iz z)) p (setN v (up v.2.2.2 i z)) := by
  obtain ⟨h1, h2, h3, h4⟩ := h
  refine ⟨h1.same (sameOn.si (by omega)), h2.same (sameOn.si (by omega)), fun j hj => ?_, fun j hj => ?_⟩
  · rw [gi_si, if_neg (by omega)]; exact h3 j hj
  · rw [gi_si]
    show _ = iz (if j = i then z else v.2.2.2 j)
    by_cases q : j = i
    · rw [if_pos ⟨rfl, by omega⟩, if_pos q]
    · rw [if_neg (by omega), if_neg q]; exact h4 j hj
theorem mPar.num {M : Mem} {v : PV} (hv : okV v) (h : mPar (rdNow M) v) {i : Nat} {z : Int} (hi : i < 10) : mPar (rdNow (si M 139 (11 + i) (iz z))) (setN v (up v.2.2.2 i z)) := by
  have hr : ∀ o, o < 292 → o ≠ 282 + i → rdNow (si M 139 (11 + i) (iz z)) o = rdNow M o := fun o ho hne => by
    by_cases q : o < 280
    · obtain ⟨k2, n2, c2, h2, q2⟩ : ∃ k2 n2 c2, blkOf k2 n2 c2 ∧ c2 ≤ o ∧ o < c2 + n2 := by
        unfold blkOf
        by_cases r1 : o < 8; · exact ⟨141, 8, 0, by omega, by omega⟩
        by_cases r2 : o < 24; · exact ⟨142, 16, 8, by omega, by omega⟩
        by_cases r3 : o < 216; · exact ⟨143, 192, 24, by omega, by omega⟩
        by_cases r4 : o < 232; · exact ⟨144, 16, 216, by omega, by omega⟩
        by_cases r5 : o < 240; · exact ⟨145, 8, 232, by omega, by omega⟩
        by_cases r6 : o < 264; · exact ⟨146, 24, 240, by omega, by omega⟩
        by_cases r7 : o < 272; · exact ⟨147, 8, 264, by omega, by omega⟩
        exact ⟨148, 8, 272, by omega, by omega⟩
      have hne2 : k2 ≠ 139 := by unfold blkOf at h2; omega
      have e1 : o = c2 + (o - c2) := by omega
      rw [e1, rd_in M h2 _ (by omega), rd_in _ h2 _ (by omega), gi_si, if_neg (by omega)]
    · have hj' : 9 ≤ o - 271 ∧ o - 271 < 21 := by omega
      rw [rd_fld M hj' (by omega), rd_fld _ hj' (by omega), gi_si, if_neg (by omega)]
  refine h.upN hv (fun o ho => hr o (by omega) (by omega)) (fun j hj => ?_)
  show _ = iz (if j = i then z else v.2.2.2 j)
  by_cases q : j = i
  · rw [if_pos q, q, rd_fld (j := 11 + i) _ (by omega) (by omega), gi_si, if_pos ⟨rfl, rfl⟩]
  · rw [if_neg q, hr _ (by omega) (by omega)]; exact h.2.2.2.2.2 j hj
theorem cPar.at' {M : Mem} {p : Nat} {v : PV} (h : cPar M p v) {i : Nat} (hi : i < 10) : gi M p (3 + i) = iz (v.2.2.2 i) := h.2.2.2 i hi
theorem mPar.at' {M : Mem} {v : PV} (h : mPar (rdNow M) v) {i : Nat} (hi : i < 10) : gi M 139 (11 + i) = iz (v.2.2.2 i) := by
  rw [← h.2.2.2.2.2 i hi, rd_fld (j := 11 + i) _ (by omega) (by omega)]
theorem ch_num {v : PV} (hv : okV v) {i : Nat} (hi : i < 10) (z : Int) :
    chC (fun (M4 : Mem) => nmq ((gi M4 1 (3 + i))) (fun (x6 : Int32) => nmq (si M4 1 (3 + i) (iz z)) (fun (M7 : Mem) => some (x6, M7)))) v (setN v (up v.2.2.2 i z)) (iz (v.2.2.2 i)) ∧
    chM (fun (M4 : Mem) => nmq ((gi M4 139 (11 + i))) (fun (x6 : Int32) => nmq (si M4 139 (11 + i) (iz z)) (fun (M7 : Mem) => some (x6, M7)))) v (setN v (up v.2.2.2 i z)) (iz (v.2.2.2 i)) := by
  refine ⟨fun M h => ⟨si M 1 (3 + i) (iz z), ?_, h.num, sameOn.si (by omega)⟩, fun M h => ⟨si M 139 (11 + i) (iz z), ?_, h.num hv hi, sameOn.si (by omega), fun j hj => by rw [gi_si, if_neg (by omega)]⟩⟩
  · show some (gi M 1 (3 + i), _) = _
    rw [h.at' hi]
  · show some (gi M 139 (11 + i), _) = _
    rw [h.at' hi]
theorem op_num {M : Mem} (hI : Inv M) (p : Int32) {lo hi : Int} {i : Nat} (hb : 0 ≤ lo ∧ lo < 1000 ∧ 0 ≤ hi ∧ hi < 1000) (hi10 : i < 10) (hok : ∀ v z, okN v → lo ≤ z → z ≤ hi → okN (setN v (up v.2.2.2 i z))) {f g : Mem → Option (Int32 × Mem)}
    (hf : ∀ M, f M = (bq1 (f_X8_outside p (iz lo) (iz hi)) (fun (x1 : Int32) => (if x1 = 0 then (bq1 (f_X1_remember 1 M) (fun (M4 : Mem) => nmq ((gi M4 1 (3 + i))) (fun (x6 : Int32) => nmq (si M4 1 (3 + i) p) (fun (M7 : Mem) => some (x6, M7))))) else (bq2 (f_X8_refuse x1 M) (fun (x8 : Int32) (M9 : Mem) => some (x8, M9)))))))
    (hg : ∀ M, g M = (bq1 (f_X9_bound p (iz lo) (iz hi)) (fun (x1 : Int32) => (if x1 = 0 then (bq1 (f_X9_remembers M) (fun (M4 : Mem) => nmq ((gi M4 139 (11 + i))) (fun (x6 : Int32) => nmq (si M4 139 (11 + i) p) (fun (M7 : Mem) => some (x6, M7))))) else (bq2 (f_X9_no x1 M) (fun (x8 : Int32) (M9 : Mem) => some (x8, M9))))))) : both M f g := by
  obtain ⟨z, z1, z2, rfl⟩ := iz_ex p
  have ef := c_outside (z := z) (lo := lo) (hi := hi) z1 z2 hb.1 hb.2.1 hb.2.2.1 hb.2.2.2
  have eg := m_bound (z := z) (lo := lo) (hi := hi) z1 z2 hb.1 hb.2.1 hb.2.2.1 hb.2.2.2
  have hf' : ∀ M, f M = _ := fun M => (hf M).trans (b1_some ef)
  have hg' : ∀ M, g M = _ := fun M => (hg M).trans (b1_some eg)
  by_cases q1 : z < lo
  · rw [if_pos q1] at hf' hg'
    refine both_no hI (v := 4) (by omega) ((hf' M).trans ?_) (fun M' => (hg' M').trans ?_)
    · show (if (iz (-4 : Int)) = 0 then _ else _) = _
      rw [if_neg (by decide), b2_id]; rfl
    · show (if (iz (-4 : Int)) = 0 then _ else _) = _
      rw [if_neg (by decide), b2_id]; rfl
  by_cases q2 : hi < z
  · rw [if_neg q1, if_pos q2] at hf' hg'
    refine both_no hI (v := 6) (by omega) ((hf' M).trans ?_) (fun M' => (hg' M').trans ?_)
    · show (if (iz (-6 : Int)) = 0 then _ else _) = _
      rw [if_neg (by decide), b2_id]; rfl
    · show (if (iz (-6 : Int)) = 0 then _ else _) = _
      rw [if_neg (by decide), b2_id]; rfl
  rw [if_neg q1, if_neg q2] at hf' hg'
  refine both_change hI ((hf' M).trans (if_pos rfl)) (fun M' => (hg' M').trans (if_pos rfl)) (fun now hn _ _ => ⟨_, _, hok now z hn (by omega) (by omega), (ch_num hn.1 hi10 z).1, (ch_num hn.1 hi10 z).2⟩)
theorem okN.up {v : PV} (h : okN v) {f : Nat → Int} (hf : okS f) (h0 : f 0 ≤ 60) : okN (setN v f) := ⟨⟨h.1.1, h.1.2.1, h.1.2.2.1, h.1.2.2.2.1, h.1.2.2.2.2.1, hf⟩, h0⟩
theorem op_line {M : Mem} (hI : Inv M) (p : Int32) : both M (f_X8_line p) (f_X9_line p) :=
  op_num hI p (lo := 10) (hi := 60) (i := 0) (by omega) (by omega) (fun v z h q1 q2 => h.up (by obtain ⟨⟨_, _, _, _, _, hs⟩, _⟩ := h; unfold okS at hs; unfold okS up; simp (decide := true) only [if_true, if_false]; omega) (by show (if 0 = 0 then z else _) ≤ 60; rw [if_pos rfl]; omega)) (fun _ => rfl) (fun _ => rfl)
theorem op_tolerance {M : Mem} (hI : Inv M) (p : Int32) : both M (f_X8_tolerance p) (f_X9_tolerance p) :=
  op_num hI p (lo := 0) (hi := 40) (i := 4) (by omega) (by omega) (fun v z h q1 q2 => h.up (by obtain ⟨⟨_, _, _, _, _, hs⟩, _⟩ := h; unfold okS at hs; unfold okS up; simp (decide := true) only [if_true, if_false]; omega) (by obtain ⟨⟨_, _, _, _, _, hs⟩, h0⟩ := h; show (if 0 = 4 then z else _) ≤ 60; rw [if_neg (by omega)]; exact h0)) (fun _ => rfl) (fun _ => rfl)
theorem op_hyphen {M : Mem} (hI : Inv M) (p : Int32) : both M (f_X8_hyphen p) (f_X9_hyphen p) :=
  op_num hI p (lo := 0) (hi := 99) (i := 5) (by omega) (by omega) (fun v z h q1 q2 => h.up (by obtain ⟨⟨_, _, _, _, _, hs⟩, _⟩ := h; unfold okS at hs; unfold okS up; simp (decide := true) only [if_true, if_false]; omega) (by obtain ⟨⟨_, _, _, _, _, hs⟩, h0⟩ := h; show (if 0 = 5 then z else _) ≤ 60; rw [if_neg (by omega)]; exact h0)) (fun _ => rfl) (fun _ => rfl)
theorem op_widow {M : Mem} (hI : Inv M) (p : Int32) : both M (f_X8_widow p) (f_X9_widow p) :=
  op_num hI p (lo := 0) (hi := 9) (i := 6) (by omega) (by omega) (fun v z h q1 q2 => h.up (by obtain ⟨⟨_, _, _, _, _, hs⟩, _⟩ := h; unfold okS at hs; unfold okS up; simp (decide := true) only [if_true, if_false]; omega) (by obtain ⟨⟨_, _, _, _, _, hs⟩, h0⟩ := h; show (if 0 = 6 then z else _) ≤ 60; rw [if_neg (by omega)]; exact h0)) (fun _ => rfl) (fun _ => rfl)
