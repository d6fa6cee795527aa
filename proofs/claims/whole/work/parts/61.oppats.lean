/-! patterns: the call -/
def ptT (p1 p2 : Int32) (M : Mem) : Mem := si (si M 162 0 p1) 162 1 p2
theorem ptT.keep {p1 p2 : Int32} {M : Mem} : keepM M (ptT p1 p2 M) := keepM.scr.tr keepM.scr
theorem ptT.at0 {p1 p2 : Int32} {M : Mem} : gi (ptT p1 p2 M) 162 0 = p1 := by unfold ptT; rw [gi_si, if_neg (by omega), gi_si, if_pos ⟨rfl, rfl⟩]
theorem ptT.at1 {p1 p2 : Int32} {M : Mem} : gi (ptT p1 p2 M) 162 1 = p2 := by unfold ptT; rw [gi_si, if_pos ⟨rfl, rfl⟩]
def ptF (sp : Int64) (x1 p3 p4 : Int32) (M25 : Mem) : Option (Int32 × Mem) := bq2 (f_X4_take 7 sp x1 p3 p4 M25) (fun (x27 : Int32) (M28 : Mem) => some (x27, M28))
def ptG (x9 x1 p3 p4 : Int32) (M14 : Mem) : Option (Int32 × Mem) := bq1 (f_X9_comesPattern x9 x1 p3 p4 M14) (fun (M16 : Mem) => some ((gi M16 139 10), M16))
theorem okN_putP {v : PV} (h : okN v) {n : Nat} {x : Pat} (hn : n ≤ v.2.1.length) (hn8 : n < 8) (hx : okP x) : okN (v.1, putP v.2.1 n x, v.2.2) := by
  obtain ⟨⟨v1, v2, v3, v4, v5, v6⟩, h0⟩ := h
  refine ⟨⟨v1, v2, ?_, fun q hq => ?_, v5, v6⟩, h0⟩
  · show (putP v.2.1 n x).length ≤ 8
    rw [putP_len]
    by_cases q : n < v.2.1.length
    · rw [if_pos q]; exact v3
    · rw [if_neg q]; omega
  · rcases putP_mem hn hq with r | r
    · rw [r]; exact hx
    · exact v4 q r
theorem pt_spell {x y : Int} (hx : 0 ≤ x ∧ x ≤ 7) (hy : -1 ≤ y ∧ y ≤ 7) : ∃ l : List Nat, okL 3 l ∧ (if (0 : Int32) ≤ iz y then (2 : Int32) else 1) = iz (l.length : Int) ∧ f_X8_spellingOf (iz x) (iz y) (-1 : Int32) = some (pk l) ∧ l.length = (if y < 0 then 1 else 2) ∧ (∀ a : Nat, l[0]? = some a → iz x = iz (a : Int)) ∧ (∀ a : Nat, l[1]? = some a → iz y = iz (a : Int)) := by
  obtain ⟨a, rfl⟩ : ∃ a : Nat, x = (a : Int) := ⟨x.toNat, by omega⟩
  by_cases q : y < 0
  · have hy : y = -1 := by omega
    subst hy
    refine ⟨[a], ⟨by show 1 ≤ 1; omega, by show 1 ≤ 3; omega, fun b hb => by rw [List.mem_singleton.mp hb]; omega⟩, by show _ = iz ((1 : Nat) : Int); decide, ?_, rfl, fun b hb => ?_, fun b hb => ?_⟩
    · rw [iz_minus1]; exact spell1 ⟨a, by omega⟩
    · have : b = a := by simpa using hb.symm
      rw [this]
    · simp at hb
  · obtain ⟨b, rfl⟩ : ∃ b : Nat, y = (b : Int) := ⟨y.toNat, by omega⟩
    refine ⟨[a, b], ⟨by show 1 ≤ 2; omega, by show 2 ≤ 3; omega, fun c hc => ?_⟩, ?_, spell2 ⟨a, by omega⟩ ⟨b, by omega⟩, ?_, fun c hc => ?_, fun c hc => ?_⟩
    · rcases List.mem_cons.mp hc with r | r
      · omega
      · rw [List.mem_singleton.mp r]; omega
    · rw [if_pos (show (0 : Int32) ≤ iz (b : Int) from le_iz (a := 0) (by omega) (by omega) (by omega) (by omega) (by omega))]; rfl
    · rw [if_neg q]; rfl
    · have : c = a := by simpa using hc.symm
      rw [this]
    · have : c = b := by simpa using hc.symm
      rw [this]
theorem op_patterns {M : Mem} (hI : Inv M) (p1 p2 p3 p4 : Int32) : both M (f_X8_patterns p1 p2 p3 p4) (f_X9_patterns p1 p2 p3 p4) := by
  have hI' := hI
  obtain ⟨now, img, st, ct, hist, ls, rw_, R, hg, hC, hM⟩ := hI
  obtain ⟨x, x1, x2, rfl⟩ := iz_ex p1
  obtain ⟨y, y1, y2, rfl⟩ := iz_ex p2
  obtain ⟨z, z1, z2, rfl⟩ := iz_ex p3
  obtain ⟨u, u1, u2, rfl⟩ := iz_ex p4
  have ec1 := c_isLetter x1 x2
  have em1 := m_isLetter x1 x2
  have ec2 := c_lon y1 y2
  have em2 := m_lon y1 y2
  have ec4 : f_X8_outside (iz u) (1 : Int32) (9 : Int32) = _ := c_outside (z := u) (lo := 1) (hi := 9) u1 u2 (by omega) (by omega) (by omega) (by omega)
  have em4 : f_X9_bound (iz u) (1 : Int32) (9 : Int32) = _ := m_bound (z := u) (lo := 1) (hi := 9) u1 u2 (by omega) (by omega) (by omega) (by omega)
  obtain ⟨m, hm, hm3⟩ : ∃ m : Nat, (if (0 : Int32) ≤ iz y then (2 : Int32) else 1) = iz (m : Int) ∧ m = (if y < 0 then 1 else 2) := by
    by_cases q : y < 0
    · refine ⟨1, ?_, by rw [if_pos q]⟩
      rw [if_neg (show ¬ (0 : Int32) ≤ iz y from nle_iz (a := 0) (by omega) (by omega) y1 y2 (by omega))]; rfl
    · refine ⟨2, ?_, by rw [if_neg q]⟩
      rw [if_pos (show (0 : Int32) ≤ iz y from le_iz (a := 0) (by omega) (by omega) y1 y2 (by omega))]; rfl
  have hm2 : m ≤ 2 := by rw [hm3]; split <;> omega
  have em3 : f_X9_isIn (iz z) (0 : Int32) (iz (m : Int)) = _ := m_isIn (z := z) (lo := 0) (hi := (m : Int)) z1 z2 (by omega) (by omega) (by omega) (by omega)
  have hpl : ∀ M', sameOn (fun k => 139 ≤ k) M M' → ∃ w, f_X9_placeOfPattern (iz (m : Int)) (iz z) (ptT (iz x) (iz y) M') = some w ∧ ∀ P : Pat → Bool, (∀ w q, now.2.1[w]? = some q → (P q = true ↔ mIs (ptT (iz x) (iz y) M') m (iz z) w)) → w = iz ((ixF P now.2.1 : Nat) : Int) := fun M' hs => by
    refine m_place ?_ hg.1.1.2.2.1 (by omega) _
    have hk := (ptT.keep (p1 := iz x) (p2 := iz y) (M := M')).2.1 10 (by omega)
    rw [hk, (hs 139 (by omega)).1]; exact hM.1.pcount
  -- the reference refuses
  have refu : ∀ (v : Nat), v < 7 → v ≠ 0 → (∀ M', f_X9_patterns (iz x) (iz y) (iz z) (iz u) M' = bq1 (f_X9_placeOfPattern (iz (m : Int)) (iz z) (ptT (iz x) (iz y) M')) (fun (_ : Int32) => bq2 (f_X9_no (iz (-(v : Int))) (ptT (iz x) (iz y) M')) (fun (x18 : Int32) (M19 : Mem) => some (x18, M19)))) →
      f_X8_patterns (iz x) (iz y) (iz z) (iz u) M = f_X8_refuse (iz (-(v : Int))) M → both M (f_X8_patterns (iz x) (iz y) (iz z) (iz u)) (f_X9_patterns (iz x) (iz y) (iz z) (iz u)) := fun v hv hv0 hgm hfc => by
    refine both_noK hI' hv ⟨M, keepC.rf, hfc⟩ (fun M' hs => ⟨ptT (iz x) (iz y) M', ptT.keep, ?_⟩)
    obtain ⟨w, e, _⟩ := hpl M' hs
    rw [hgm M', e, b_s1, b2_id]
  by_cases q1 : 0 ≤ x ∧ x ≤ 7
  case neg =>
    rw [if_neg q1] at ec1 em1
    refine refu 1 (by omega) (by omega) (fun M' => ?_) ?_
    · simp (decide := true) only [f_X9_patterns, nmq, hm, em1, b_s1, if_true]
      congr 1
    · simp (decide := true) only [f_X8_patterns, nmq, jq, ec1, b_s1, if_true, b2_id]; rfl
  rw [if_pos q1] at ec1 em1
  by_cases q2 : -1 ≤ y ∧ y ≤ 7
  case neg =>
    rw [if_neg q2] at ec2 em2
    refine refu 1 (by omega) (by omega) (fun M' => ?_) ?_
    · simp (decide := true) only [f_X9_patterns, nmq, hm, em1, em2, b_s1, if_true, if_false]
      congr 1
    · simp (decide := true) only [f_X8_patterns, nmq, jq, ec1, ec2, b_s1, if_true, if_false, b2_id]; rfl
  rw [if_pos q2] at ec2 em2
  by_cases q3 : 0 ≤ z ∧ z ≤ m
  case neg =>
    rw [if_neg q3] at em3
    refine refu 1 (by omega) (by omega) (fun M' => ?_) ?_
    · simp (decide := true) only [f_X9_patterns, nmq, hm, em1, em2, em3, b_s1, if_true, if_false]
      congr 1
    · by_cases q4 : z < 0
      · have c1 : iz z < 0 := lt_iz (b := 0) z1 z2 (by omega) (by omega) q4
        simp (decide := true) only [f_X8_patterns, nmq, jq, hm, ec1, ec2, c1, b_s1, if_true, if_false, b2_id]; rfl
      · have c1 : ¬ iz z < 0 := nlt_iz (b := 0) z1 z2 (by omega) (by omega) q4
        have c2 : ¬ iz z ≤ iz (m : Int) := nle_iz z1 z2 (by omega) (by omega) (by omega)
        simp (decide := true) only [f_X8_patterns, nmq, jq, hm, ec1, ec2, c1, c2, b_s1, if_true, if_false, b2_id]; rfl
  rw [if_pos q3] at em3
  have c1 : ¬ iz z < 0 := nlt_iz (b := 0) z1 z2 (by omega) (by omega) (by omega)
  have c2 : iz z ≤ iz (m : Int) := le_iz z1 z2 (by omega) (by omega) (by omega)
  by_cases q5 : u < 1
  · rw [if_pos q5] at ec4 em4
    refine refu 4 (by omega) (by omega) (fun M' => ?_) ?_
    · simp (decide := true) only [f_X9_patterns, nmq, hm, em1, em2, em3, em4, b_s1, if_true, if_false]
      congr 1
    · simp (decide := true) only [f_X8_patterns, nmq, jq, hm, ec1, ec2, ec4, c1, c2, b_s1, if_true, if_false, b2_id]; rfl
  by_cases q6 : 9 < u
  · rw [if_neg q5, if_pos q6] at ec4 em4
    refine refu 6 (by omega) (by omega) (fun M' => ?_) ?_
    · simp (decide := true) only [f_X9_patterns, nmq, hm, em1, em2, em3, em4, b_s1, if_true, if_false]
      congr 1
    · simp (decide := true) only [f_X8_patterns, nmq, jq, hm, ec1, ec2, ec4, c1, c2, b_s1, if_true, if_false, b2_id]; rfl
  rw [if_neg q5, if_neg q6] at ec4 em4
  rw [iz_0] at ec4 em4
  obtain ⟨l, okl, hl1, hl2, hl3, hl4, hl5⟩ := pt_spell q1 q2
  have hml : m = l.length := by rw [hm3, hl3]
  subst hml
  obtain ⟨p, rfl⟩ : ∃ p : Nat, z = (p : Int) := ⟨z.toNat, by omega⟩
  obtain ⟨t, rfl⟩ : ∃ t : Nat, u = (t : Int) := ⟨u.toNat, by omega⟩
  have h8 := hg.1.1.2.2.1
  have a9 : alen (7 + 2) = 8 := rfl
  have a10 : alen (7 + 3) = 8 := rfl
  have a11 : alen (7 + 4) = 8 := rfl
  have l12 : l.length ≤ 12 := by omega
  have ecr : f_X4_hasRoomFor 7 (pk l) (iz (p : Int)) M = _ := c_room hC.1.2.1 a10 h8 hg.1.1.2.2.2.1 l12 okl.2.2 (p := p) (by omega)
  have hcm : ∀ (M' : Mem) (k a : Nat), l[k]? = some a → gi (ptT (iz x) (iz y) M') 162 k = iz (a : Int) := fun M' k a hk => by
    have hk2 : k < l.length := (List.getElem?_eq_some_iff.mp hk).1
    by_cases k0 : k = 0
    · rw [k0, ptT.at0]; rw [k0] at hk; exact hl4 a hk
    · have k1 : k = 1 := by omega
      rw [k1, ptT.at1]; rw [k1] at hk; exact hl5 a hk
  have hpl2 : ∀ M', sameOn (fun k => 139 ≤ k) M M' → f_X9_placeOfPattern (iz (l.length : Int)) (iz (p : Int)) (ptT (iz x) (iz y) M') = some (iz ((ixF (patIs l p) now.2.1 : Nat) : Int)) := fun M' hs => by
    obtain ⟨w, e, hw⟩ := hpl M' hs
    rw [e, hw (patIs l p) (m_isIt hg.1.1 ((hM.same hg hs).keep hg ptT.keep).1 okl.2.1 (hcm M') okl.2.2 (by omega))]
  have hle := ixF_le (patIs l p) now.2.1
  generalize hnn : ixF (patIs l p) now.2.1 = n at hle ecr hpl2
  by_cases q7 : n < 8
  case neg =>
    have n8 : n = 8 := by omega
    rw [if_neg q7] at ecr
    refine both_noK hI' (v := 6) (by omega) ⟨M, keepC.rf, ?_⟩ (fun M' hs => ⟨ptT (iz x) (iz y) M', ptT.keep, ?_⟩)
    · simp (decide := true) only [f_X8_patterns, nmq, jq, hm, hl2, ec1, ec2, ec4, c1, c2, ecr, b_s1, if_true, if_false, b2_id]; rfl
    · have e := hpl2 M' hs
      rw [n8] at e
      have e' : f_X9_placeOfPattern (iz (l.length : Int)) (iz (p : Int)) (si (si M' 162 0 (iz x)) 162 1 (iz y)) = some (8 : Int32) := e
      simp (decide := true) only [f_X9_patterns, nmq, hm, em1, em2, em3, em4, e', b_s1, if_true, if_false, b2_id]; rfl
  rw [if_pos q7] at ecr
  refine both_change2 (F := ptF (pk l) (iz (l.length : Int)) (iz (p : Int)) (iz (t : Int))) (G := ptG (iz (n : Int)) (iz (l.length : Int)) (iz (p : Int)) (iz (t : Int))) (Q := fun M' => ∀ (k a : Nat), l[k]? = some a → gi M' 162 k = iz (a : Int)) hg hC hM ?_ (fun M' hs => ⟨ptT (iz x) (iz y) M', ptT.keep, hcm M', ?_⟩) (fun M1 M2 h1 hs k a hk => by rw [(hs 162 (by omega)).1]; exact h1 k a hk) ⟨iz ((putP now.2.1 n (l, p, t)).length : Int), (now.1, putP now.2.1 n (l, p, t), now.2.2), ?_, ?_, ?_⟩
  · simp (decide := true) only [f_X8_patterns, nmq, jq, hm, hl2, ec1, ec2, ec4, c1, c2, ecr, b_s1, if_true, if_false]; rfl
  · have e := hpl2 M' hs
    have e' : f_X9_placeOfPattern (iz (l.length : Int)) (iz (p : Int)) (si (si M' 162 0 (iz x)) 162 1 (iz y)) = some (iz (n : Int)) := e
    have n8 : ¬ iz (n : Int) = (8 : Int32) := ne_cnt (i := 8) (by omega) (by omega) (by omega)
    simp (decide := true) only [f_X9_patterns, nmq, hm, em1, em2, em3, em4, e', n8, b_s1, if_true, if_false]; rfl
  · exact okN_putP hg.1 hle q7 ⟨okl, by show p ≤ l.length; omega, by show 1 ≤ t; omega, by show t ≤ 9; omega⟩
  · intro M1 h1
    obtain ⟨M', e, r1, r2, r3⟩ := c_take (M := M1) (k := 7) (x := t) h1.2.1 a9 a10 a11 h8 hg.1.1.2.2.2.1 l12 okl.2.2 (p := p) (by omega) hnn.symm q7
    refine ⟨M', ?_, ⟨h1.1.same (r3.mono (fun b hb => by omega)), r1, fun i hi => ?_, fun i hi => ?_⟩, r3.mono (fun b hb => by omega)⟩
    · unfold ptF; rw [b2_id]; exact e
    · rw [(r3 2 (by omega)).1]; exact h1.2.2.1 i hi
    · rw [(r3 1 (by omega)).1]; exact h1.2.2.2 i hi
  · intro M1 hq h1
    obtain ⟨M', e, r0, r1, r2, r3⟩ := m_comes (M := M1) (p := p) (x := t) (n := n) hg.1.1 h1 okl.2.1 hq hle q7
    refine ⟨M', ?_, r1, r2.mono (fun k hk => by omega), fun j hj => r3 j (by omega)⟩
    unfold ptG
    rw [e, b_s1, r0]
