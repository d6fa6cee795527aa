/-! widths and words changed -/
theorem blk_at {o : Nat} (h : o < 280) : ∃ k n c, blkOf k n c ∧ c ≤ o ∧ o < c + n := by
  unfold blkOf
  by_cases r1 : o < 8; · exact ⟨141, 8, 0, by omega, by omega⟩
  by_cases r2 : o < 24; · exact ⟨142, 16, 8, by omega, by omega⟩
  by_cases r3 : o < 216; · exact ⟨143, 192, 24, by omega, by omega⟩
  by_cases r4 : o < 232; · exact ⟨144, 16, 216, by omega, by omega⟩
  by_cases r5 : o < 240; · exact ⟨145, 8, 232, by omega, by omega⟩
  by_cases r6 : o < 264; · exact ⟨146, 24, 240, by omega, by omega⟩
  by_cases r7 : o < 272; · exact ⟨147, 8, 264, by omega, by omega⟩
  exact ⟨148, 8, 272, by omega, by omega⟩
theorem rd_si {M : Mem} {k n c i : Nat} {x : Int32} (h : blkOf k n c) (hi : i < n) (o : Nat) (ho : o < 292) : rdNow (si M k i x) o = if o = c + i then x else rdNow M o := by
  have hk : k ≠ 139 := by unfold blkOf at h; omega
  by_cases q : c ≤ o ∧ o < c + n
  · have e1 : o = c + (o - c) := by omega
    rw [e1, rd_in _ h _ (by omega), rd_in M h _ (by omega), gi_si]
    by_cases q2 : o - c = i
    · rw [if_pos ⟨rfl, q2⟩, if_pos (by omega)]
    · rw [if_neg (by omega), if_neg (by omega)]
  · rw [if_neg (by omega)]
    exact rd_out h (sameOn.si (by omega)) (fun j _ _ => by rw [gi_si, if_neg (by omega)]) o ho (by omega)
theorem rd_sf {M : Mem} {j : Nat} {x : Int32} (hj : 9 ≤ j ∧ j < 21) (o : Nat) (ho : o < 292) : rdNow (si M 139 j x) o = if o = 271 + j then x else rdNow M o := by
  by_cases q : o < 280
  · obtain ⟨k, n, c, h, q2⟩ := blk_at q
    have hk : k ≠ 139 := by unfold blkOf at h; omega
    have e1 : o = c + (o - c) := by omega
    rw [if_neg (by omega), e1, rd_in _ h _ (by omega), rd_in M h _ (by omega), gi_si, if_neg (by omega)]
  · rw [rd_fld (j := o - 271) _ (by omega) (by omega), rd_fld (j := o - 271) _ (by omega) (by omega), gi_si]
    by_cases q2 : o = 271 + j
    · rw [if_pos q2, if_pos ⟨rfl, by omega⟩]
    · rw [if_neg q2, if_neg (by omega)]
theorem mPar.words {rd rd' : Nat → Int32} {v : PV} {ws : List Word} (hv : okV v) (h : mPar rd v) (h0 : rd' 280 = iz ws.length) (hw : ∀ (w : Nat) (q : Word), ws[w]? = some q → rd' (8 + w) = iz q.1.length ∧ (∀ (k a : Nat), q.1[k]? = some a → rd' (24 + (12 * w + k)) = iz a) ∧ rd' (216 + w) = iz q.2)
    (hs : ∀ o, o < 8 ∨ (232 ≤ o ∧ o < 280) ∨ (281 ≤ o ∧ o < 292) → rd' o = rd o) : mPar rd' (ws, v.2) := by
  obtain ⟨h1, h2, h3, h4, h5, h6⟩ := h
  obtain ⟨v1, v2, v3, v4, v5, v6⟩ := hv
  refine ⟨h0, hw, by rw [hs _ (by omega)]; exact h3, fun w q hq => ?_, fun i hi => by rw [hs _ (by omega)]; exact h5 i hi, fun i hi => by rw [hs _ (by omega)]; exact h6 i hi⟩
  have hq : v.2.1[w]? = some q := hq
  have hw : w < 8 := Nat.lt_of_lt_of_le (List.getElem?_eq_some_iff.mp hq).1 v3
  obtain ⟨a1, a2, a3, a4⟩ := h4 w q hq
  refine ⟨by rw [hs _ (by omega)]; exact a1, fun k a hk => ?_, by rw [hs _ (by omega)]; exact a3, by rw [hs _ (by omega)]; exact a4⟩
  have hk2 : k < 3 := Nat.lt_of_lt_of_le (List.getElem?_eq_some_iff.mp hk).1 (v4 q (List.mem_of_getElem? hq)).1.2.1
  rw [hs _ (by omega)]; exact a2 k a hk
theorem mPar.widths {rd rd' : Nat → Int32} {v : PV} {f : Nat → Int} (hv : okV v) (h : mPar rd v) (hw : ∀ i, i < 8 → rd' i = iz (f i)) (hs : ∀ o, 8 ≤ o → o < 292 → rd' o = rd o) : mPar rd' (v.1, v.2.1, f, v.2.2.2) := by
  have h' : mPar (fun o => if o < 8 then rd o else rd' o) v := h.congr hv (fun o ho => by
    show (if o < 8 then rd o else rd' o) = rd o
    by_cases q : o < 8
    · rw [if_pos q]
    · rw [if_neg q]; exact hs o (by omega) ho)
  have e : ∀ o, 8 ≤ o → (fun o => if o < 8 then rd o else rd' o) o = rd' o := fun o ho => if_neg (by omega)
  obtain ⟨h1, h2, h3, h4, h5, h6⟩ := h'
  refine ⟨by rw [← e _ (by omega)]; exact h1, fun w q hq => ?_, by rw [← e _ (by omega)]; exact h3, fun w q hq => ?_, hw, fun i hi => by rw [← e _ (by omega)]; exact h6 i hi⟩
  · obtain ⟨a1, a2, a3⟩ := h2 w q hq
    exact ⟨by rw [← e _ (by omega)]; exact a1, fun k a hk => by rw [← e _ (by omega)]; exact a2 k a hk, by rw [← e _ (by omega)]; exact a3⟩
  · obtain ⟨a1, a2, a3, a4⟩ := h4 w q hq
    exact ⟨by rw [← e _ (by omega)]; exact a1, fun k a hk => by rw [← e _ (by omega)]; exact a2 k a hk, by rw [← e _ (by omega)]; exact a3, by rw [← e _ (by omega)]; exact a4⟩
theorem both_no' {M : Mem} (h : Inv M) {v : Nat} (hv : v < 7) {f g : Mem → Option (Int32 × Mem)} (hf : f M = f_X8_refuse (iz (-(v : Int))) M) (hg : ∀ M', sameOn (fun k => k ≠ 138) M M' → g M' = f_X9_no (iz (-(v : Int))) M') : both M f g := by
  obtain ⟨M1, M2, h1, h2, h3⟩ := inv_no h hv
  exact ⟨_, M1, M2, hf.trans h1, (hg M1 (refuse_same hv h1)).trans h2, h3⟩
theorem both_change' {M : Mem} {now : PV} {img : Option PV} {st ct : Nat} {hist : Nat → PV} {ls rw_ : List Nat} {R : Nat → Int32} {f g F G : Mem → Option (Int32 × Mem)} (hg : okG now img st ct hist ls rw_) (hC : IC M now img st ct hist ls rw_ R) (hM : IM M now img st ct hist ls rw_ R) (hf : f M = bq1 (f_X1_remember 1 M) F) (hg' : ∀ M', sameOn (fun k => 139 ≤ k) M M' → g M' = bq1 (f_X9_remembers M') G)
    (h : ∃ r now', okN now' ∧ chC F now now' r ∧ chM G now now' r) : both M f g := by
  obtain ⟨r, now', hn, hF, hG⟩ := h
  obtain ⟨M1, e1, c1, s1⟩ := c_remember hg hC
  obtain ⟨M2, e2, c2, s2⟩ := hF M1 c1.1
  have hs : sameOn (fun k => 139 ≤ k) M M2 := (s1.mono (fun k hk => by omega)).tr (s2.mono (fun k hk => by omega) : sameOn (fun k => 139 ≤ k) M1 M2)
  have hM2 := hM.same hg hs
  obtain ⟨M3, e3, c3, s3⟩ := m_remember hg hM2
  obtain ⟨M4, e4, c4, s4, f4⟩ := hG M3 c3.1
  refine ⟨r, M2, M4, by rw [hf, e1, b_s1]; exact e2, by rw [hg' M2 hs, e3, b_s1]; exact e4, now', img, _, _, _, ls, rw_, R, hg.push.setN hn, ?_, ?_⟩
  · refine IC.same ?_ (s4.mono (fun k hk => by omega))
    refine IC.same ?_ (s3.mono (fun k hk => by omega))
    exact c1.setNow (s2.mono (fun k hk => by omega)) c2
  · exact c3.setNow hg.push (s4.mono (fun k hk => by omega)) f4 c4
theorem m_isLetter {z : Int} (h1 : -2147483648 ≤ z) (h2 : z < 2147483648) : f_X9_isLetter (iz z) = some (if 0 ≤ z ∧ z ≤ 7 then 1 else 0) := by
  unfold f_X9_isLetter
  have e : f_X9_isIn (iz z) (0 : Int32) (7 : Int32) = _ := m_isIn (z := z) (lo := 0) (hi := 7) h1 h2 (by omega) (by omega) (by omega) (by omega)
  rw [e, b_s1]
  refine g_t ?_
  by_cases q : 0 ≤ z ∧ z ≤ 7
  · rw [if_pos q]; right; rfl
  · rw [if_neg q]; left; rfl
theorem ch_widens {v : PV} (hv : okN v) {a : Nat} (ha : a < 8) (z : Int) :
    chC (fun (M7 : Mem) => bq1 (f_X8_at 2 (iz (a : Int)) M7) (fun x9 => bq1 (f_X8_put 2 (iz (a : Int)) (iz z) M7) (fun M11 => some (x9, M11)))) v (v.1, v.2.1, up v.2.2.1 a z, v.2.2.2) (iz (v.2.2.1 a)) ∧
    chM (fun (M6 : Mem) => gq (inB (iz (a : Int)) 8) (nmq ((gi M6 141 ((iz (a : Int) : Int32).toNatClampNeg))) (fun (x9 : Int32) => gq (inB (iz (a : Int)) 8) (nmq (si M6 141 ((iz (a : Int) : Int32).toNatClampNeg) (iz z)) (fun (M11 : Mem) => some (x9, M11)))))) v (v.1, v.2.1, up v.2.2.1 a z, v.2.2.2) (iz (v.2.2.1 a)) := by
  refine ⟨fun M h => ⟨si M 2 a (iz z), ?_, ?_, sameOn.si (by omega)⟩, fun M h => ⟨si M 141 a (iz z), ?_, ?_, sameOn.si (by omega), fun j hj => by rw [gi_si, if_neg (by omega)]⟩⟩
  · show bq1 _ _ = _
    have al : alen 2 = 8 := rfl
    rw [c_at al (by omega) ha, b_s1, c_put al (by omega) ha, b_s1, h.2.2.1 a ha]
  · obtain ⟨h1, h2, h3, h4⟩ := h
    refine ⟨h1.same (sameOn.si (by omega)), h2.same (sameOn.si (by omega)), fun j hj => ?_, fun j hj => ?_⟩
    · rw [gi_si]
      show _ = iz (if j = a then z else v.2.2.1 j)
      by_cases q : j = a
      · rw [if_pos ⟨rfl, q⟩, if_pos q]
      · rw [if_neg (by omega), if_neg q]; exact h3 j hj
    · rw [gi_si, if_neg (by omega)]; exact h4 j hj
  · show gq _ _ = _
    rw [g_t (inB_n ha (by omega)), nmq_q, g_t (inB_n ha (by omega)), nmq_q, clN (by omega)]
    have := h.2.2.2.2.1 a ha
    have e := rd_in M (k := 141) (n := 8) (c := 0) (Or.inl ⟨rfl, rfl, rfl⟩) a ha
    rw [Nat.zero_add] at e
    rw [← e, this]
  · have hb : blkOf 141 8 0 := Or.inl ⟨rfl, rfl, rfl⟩
    refine h.widths hv.1 (fun i hi => ?_) (fun o h1 h2 => ?_)
    · rw [rd_si hb ha i (by omega), Nat.zero_add]
      show _ = iz (if i = a then z else v.2.2.1 i)
      by_cases q : i = a
      · rw [if_pos q, if_pos q]
      · rw [if_neg q, if_neg q]; exact h.2.2.2.2.1 i hi
    · rw [rd_si hb ha o h2, if_neg (by omega)]
theorem op_widens {M : Mem} (hI : Inv M) (p p' : Int32) : both M (f_X8_widens p p') (f_X9_widens p p') := by
  obtain ⟨z, z1, z2, rfl⟩ := iz_ex p
  obtain ⟨y, y1, y2, rfl⟩ := iz_ex p'
  have ef2 : f_X8_outside (iz y) (2 : Int32) (9 : Int32) = _ := c_outside (z := y) (lo := 2) (hi := 9) y1 y2 (by omega) (by omega) (by omega) (by omega)
  have eg2 : f_X9_bound (iz y) (2 : Int32) (9 : Int32) = _ := m_bound (z := y) (lo := 2) (hi := 9) y1 y2 (by omega) (by omega) (by omega) (by omega)
  have hf' : ∀ M, f_X8_widens (iz z) (iz y) M = _ := fun M => b1_some (c_isLetter z1 z2)
  have hg' : ∀ M, f_X9_widens (iz z) (iz y) M = _ := fun M => b1_some (m_isLetter z1 z2)
  by_cases q : 0 ≤ z ∧ z ≤ 7
  · rw [if_pos q] at hf' hg'
    have hf2 : ∀ M, f_X8_widens (iz z) (iz y) M = _ := fun M => ((hf' M).trans (if_neg (by decide))).trans (b1_some ef2)
    have hg2 : ∀ M, f_X9_widens (iz z) (iz y) M = _ := fun M => (hg' M).trans (b1_some ((if_neg (by decide)).trans (b1_some eg2)))
    by_cases q1 : y < 2
    · rw [if_pos q1] at hf2 hg2
      refine both_no hI (v := 4) (by omega) ((hf2 M).trans ?_) (fun M' => (hg2 M').trans ?_)
      · show (if (iz (-4 : Int)) = 0 then _ else _) = _
        rw [if_neg (by decide), b2_id]; rfl
      · show (if (iz (-4 : Int)) = 0 then _ else _) = _
        rw [if_neg (by decide), b2_id]; rfl
    by_cases q2 : 9 < y
    · rw [if_neg q1, if_pos q2] at hf2 hg2
      refine both_no hI (v := 6) (by omega) ((hf2 M).trans ?_) (fun M' => (hg2 M').trans ?_)
      · show (if (iz (-6 : Int)) = 0 then _ else _) = _
        rw [if_neg (by decide), b2_id]; rfl
      · show (if (iz (-6 : Int)) = 0 then _ else _) = _
        rw [if_neg (by decide), b2_id]; rfl
    rw [if_neg q1, if_neg q2] at hf2 hg2
    obtain ⟨a, rfl⟩ : ∃ a : Nat, z = (a : Int) := ⟨z.toNat, by omega⟩
    refine both_change hI ((hf2 M).trans (if_pos rfl)) (fun M' => (hg2 M').trans (if_pos rfl)) (fun now hn _ _ => ⟨_, _, ?_, (ch_widens hn (a := a) (by omega) y).1, (ch_widens hn (a := a) (by omega) y).2⟩)
    obtain ⟨⟨v1, v2, v3, v4, v5, v6⟩, h0⟩ := hn
    refine ⟨⟨v1, v2, v3, v4, fun i hi => ?_, v6⟩, h0⟩
    show 2 ≤ (if i = a then y else now.2.2.1 i) ∧ (if i = a then y else now.2.2.1 i) ≤ 9
    by_cases q5 : i = a
    · rw [if_pos q5]; omega
    · rw [if_neg q5]; exact v5 i hi
  · rw [if_neg q] at hf' hg'
    refine both_no hI (v := 1) (by omega) ((hf' M).trans ?_) (fun M' => (hg' M').trans ?_)
    · show (if (0 : Int32) = 0 then _ else _) = _
      rw [if_pos rfl, b2_id]; rfl
    · rw [b1_some (if_pos rfl)]
      show (if (-1 : Int32) = 0 then _ else _) = _
      rw [if_neg (by decide), b2_id]; rfl
