/-! .. by the reference -/
theorem m_dropI {x : Nat} (hx : x < 15) : ∀ (d f j : Nat) (M : Mem), j + d = 12 → d < f →
    ∃ M', lq2 (f_X9_drop_L50 (iz (x : Int))) f (iz (j : Int)) M = some M' ∧ (∀ w, gi M' 143 w = if 12 * x + j ≤ w ∧ w < 12 * x + 12 then gi M 143 (w + 12) else gi M 143 w) ∧ sameOn (fun k => k ≠ 143) M M' := by
  intro d
  induction d with
  | zero =>
    intro f j M h1 h2
    obtain ⟨f, rfl⟩ : ∃ g, f = g + 1 := ⟨f - 1, by omega⟩
    refine ⟨M, ?_, fun w => by rw [if_neg (by omega)], sameOn.rf⟩
    rw [lq2_s]
    unfold f_X9_drop_L50
    rw [if_pos (show (12 : Int32) ≤ iz (j : Int) from (iz_cnt (n := 12) (m := j) (by omega) (by omega)).2.2.mpr (by omega))]
  | succ d ih =>
    intro f j M h1 h2
    obtain ⟨f, rfl⟩ : ∃ g, f = g + 1 := ⟨f - 1, by omega⟩
    have c1 : ¬ (12 : Int32) ≤ iz (j : Int) := fun q => by have := (iz_cnt (n := 12) (m := j) (by omega) (by omega)).2.2.mp q; omega
    have i1 : (12 : Int32) * iz (x : Int) + (12 : Int32) + iz (j : Int) = iz ((12 * x + 12 + j : Nat) : Int) := by
      rw [show (12 : Int32) = iz (12 : Int) from rfl, iz_mul, iz_add, iz_add]; congr 1
    have i2 : (12 : Int32) * iz (x : Int) + iz (j : Int) = iz ((12 * x + j : Nat) : Int) := by
      rw [show (12 : Int32) = iz (12 : Int) from rfl, iz_mul, iz_add]; congr 1
    obtain ⟨M1, hM1⟩ : ∃ M1, M1 = si M 143 (12 * x + j) (gi M 143 (12 * x + 12 + j)) := ⟨_, rfl⟩
    have hs : sameOn (fun k => k ≠ 143) M M1 := by rw [hM1]; exact sameOn.si (by omega)
    have e1 : ∀ w, gi M1 143 w = if w = 12 * x + j then gi M 143 (12 * x + 12 + j) else gi M 143 w := fun w => by
      rw [hM1, gi_si]
      by_cases q : w = 12 * x + j
      · rw [if_pos ⟨rfl, q⟩, if_pos q]
      · rw [if_neg (by omega), if_neg q]
    obtain ⟨M', e', r1, r2⟩ := ih f (j + 1) M1 (by omega) (by omega)
    refine ⟨M', ?_, fun w => ?_, hs.tr r2⟩
    · rw [lq2_s]
      unfold f_X9_drop_L50
      rw [if_neg c1, i1, i2, g_t (inB_n (by omega) (by omega)), g_t (inB_n (by omega) (by omega)), nmq_q, nmq_q, iz_s, clN (by omega), clN (by omega), ← hM1]
      exact e'
    · rw [r1]
      by_cases q : 12 * x + (j + 1) ≤ w ∧ w < 12 * x + 12
      · rw [if_pos q, if_pos (by omega), e1, if_neg (by omega)]
      · rw [if_neg q, e1]
        by_cases q2 : w = 12 * x + j
        · rw [if_pos q2, if_pos (by omega), q2]; congr 1; omega
        · rw [if_neg q2, if_neg (by omega)]
theorem m_dropL {n : Nat} (hn : n ≤ 15) : ∀ (d f x : Nat) (M : Mem), x + d = n → d < f → gi M 139 9 = iz (n : Int) →
    ∃ M', lq2 f_X9_drop_L12 f (iz (x : Int)) M = some M' ∧ (∀ w, gi M' 142 w = if x ≤ w ∧ w < n then gi M 142 (w + 1) else gi M 142 w) ∧ (∀ w, gi M' 144 w = if x ≤ w ∧ w < n then gi M 144 (w + 1) else gi M 144 w) ∧ (∀ w, gi M' 143 w = if 12 * x ≤ w ∧ w < 12 * n then gi M 143 (w + 12) else gi M 143 w) ∧ sameOn (fun a => a ≠ 142 ∧ a ≠ 143 ∧ a ≠ 144) M M' := by
  intro d
  induction d with
  | zero =>
    intro f x M h1 h2 h3
    obtain ⟨f, rfl⟩ : ∃ g, f = g + 1 := ⟨f - 1, by omega⟩
    refine ⟨M, ?_, fun w => by rw [if_neg (by omega)], fun w => by rw [if_neg (by omega)], fun w => by rw [if_neg (by omega)], sameOn.rf⟩
    rw [lq2_s]
    unfold f_X9_drop_L12
    rw [h3, if_pos ((iz_cnt (by omega) (by omega)).2.2.mpr (by omega))]
  | succ d ih =>
    intro f x M h1 h2 h3
    obtain ⟨f, rfl⟩ : ∃ g, f = g + 1 := ⟨f - 1, by omega⟩
    have c1 : ¬ iz (n : Int) ≤ iz (x : Int) := fun q => by have := (iz_cnt (n := n) (m := x) (by omega) (by omega)).2.2.mp q; omega
    obtain ⟨M1, hM1⟩ : ∃ M1, M1 = si (si M 142 x (gi M 142 (x + 1))) 144 x (gi M 144 (x + 1)) := ⟨_, rfl⟩
    have hs1 : sameOn (fun a => a ≠ 142 ∧ a ≠ 144) M M1 := by rw [hM1]; exact (sameOn.si (by omega)).tr (sameOn.si (by omega))
    obtain ⟨M2, ei, t1, t2⟩ := m_dropI (x := x) (by omega) 12 FU 0 M1 (by omega) (by rw [FU_eq]; omega)
    have e2 : ∀ w, gi M2 142 w = if w = x then gi M 142 (x + 1) else gi M 142 w := fun w => by
      rw [(t2 142 (by omega)).1, hM1, gi_si, if_neg (by omega), gi_si]
      by_cases q : w = x
      · rw [if_pos ⟨rfl, q⟩, if_pos q]
      · rw [if_neg (by omega), if_neg q]
    have e4 : ∀ w, gi M2 144 w = if w = x then gi M 144 (x + 1) else gi M 144 w := fun w => by
      rw [(t2 144 (by omega)).1, hM1, gi_si]
      by_cases q : w = x
      · rw [if_pos ⟨rfl, q⟩, if_pos q]
      · rw [if_neg (by omega), if_neg q, gi_si, if_neg (by omega)]
    have e3 : ∀ w, gi M2 143 w = if 12 * x ≤ w ∧ w < 12 * x + 12 then gi M 143 (w + 12) else gi M 143 w := fun w => by
      rw [t1, (hs1 143 (by omega)).1]; rfl
    have hs2 : sameOn (fun a => a ≠ 142 ∧ a ≠ 143 ∧ a ≠ 144) M M2 := (hs1.mono (fun k hk => by omega)).tr (t2.mono (fun k hk => by omega))
    obtain ⟨M', e', r1, r2, r3, r4⟩ := ih f (x + 1) M2 (by omega) (by omega) (by rw [(hs2 139 (by omega)).1]; exact h3)
    refine ⟨M', ?_, fun w => ?_, fun w => ?_, fun w => ?_, hs2.tr r4⟩
    · rw [lq2_s]
      unfold f_X9_drop_L12
      have ei' : lq2 (f_X9_drop_L50 (iz (x : Int))) FU (0 : Int32) M1 = some M2 := ei
      rw [h3, if_neg c1, iz_s, g_t (inB_n (by omega) (by omega)), g_t (inB_n (by omega) (by omega)), nmq_q, g_t (inB_n (by omega) (by omega)), g_t (inB_n (by omega) (by omega)), nmq_q, clN (by omega), clN (by omega)]
      have e44 : gi (si M 142 x (gi M 142 (x + 1))) 144 (x + 1) = gi M 144 (x + 1) := by rw [gi_si, if_neg (by omega)]
      rw [e44, ← hM1, ei', b_s1, nmq_q]
      exact e'
    · rw [r1]
      by_cases q : x + 1 ≤ w ∧ w < n
      · rw [if_pos q, if_pos (by omega), e2, if_neg (by omega)]
      · rw [if_neg q, e2]
        by_cases q2 : w = x
        · rw [if_pos q2, if_pos (by omega), q2]
        · rw [if_neg q2, if_neg (by omega)]
    · rw [r2]
      by_cases q : x + 1 ≤ w ∧ w < n
      · rw [if_pos q, if_pos (by omega), e4, if_neg (by omega)]
      · rw [if_neg q, e4]
        by_cases q2 : w = x
        · rw [if_pos q2, if_pos (by omega), q2]
        · rw [if_neg q2, if_neg (by omega)]
    · rw [r3]
      by_cases q : 12 * (x + 1) ≤ w ∧ w < 12 * n
      · rw [if_pos q, if_pos (by omega), e3, if_neg (by omega)]
      · rw [if_neg q, e3]
        by_cases q2 : 12 * x ≤ w ∧ w < 12 * x + 12
        · rw [if_pos q2, if_pos (by omega)]
        · rw [if_neg q2, if_neg (by omega)]
theorem m_wdrop {M : Mem} {v : PV} (hv : okV v) {a : Nat} (h : mPar (rdNow M) v) (ha : a < v.1.length) :
    ∃ M', f_X9_drop (iz (a : Int)) M = some M' ∧ gi M' 139 9 = iz ((v.1.length - 1 : Nat) : Int) ∧ mPar (rdNow M') (v.1.eraseIdx a, v.2) ∧ (∀ j, j ≠ 9 → gi M' 139 j = gi M 139 j) ∧ sameOn (fun b => b ≠ 139 ∧ b ≠ 142 ∧ b ≠ 143 ∧ b ≠ 144) M M' := by
  have hl := hv.1
  have e0 : gi M 139 9 - (1 : Int32) = iz ((v.1.length - 1 : Nat) : Int) := by
    rw [h.count, show (1 : Int32) = iz (1 : Int) from rfl, iz_sub]; congr 1; omega
  obtain ⟨M', e, r1, r2, r3, r4⟩ := m_dropL (n := v.1.length - 1) (by omega) (v.1.length - 1 - a) FU a (si M 139 9 (iz ((v.1.length - 1 : Nat) : Int))) (by omega) (by rw [FU_eq]; omega) (by rw [gi_si, if_pos ⟨rfl, rfl⟩])
  have s0 : sameOn (fun b => b ≠ 139) M (si M 139 9 (iz ((v.1.length - 1 : Nat) : Int))) := sameOn.si (by omega)
  have h9 : gi M' 139 9 = iz ((v.1.length - 1 : Nat) : Int) := by rw [(r4 139 (by omega)).1, gi_si, if_pos ⟨rfl, rfl⟩]
  have hf : ∀ j, j ≠ 9 → gi M' 139 j = gi M 139 j := fun j hj => by rw [(r4 139 (by omega)).1, gi_si, if_neg (by omega)]
  have hs : sameOn (fun b => b ≠ 139 ∧ b ≠ 142 ∧ b ≠ 143 ∧ b ≠ 144) M M' := (s0.mono (fun k hk => by omega)).tr (r4.mono (fun k hk => by omega))
  refine ⟨M', ?_, h9, ?_, hf, hs⟩
  · unfold f_X9_drop
    rw [nmq_q, e0, e, b_s1]
  · refine h.words hv ?_ (fun w q hq => ?_) (fun o ho => ?_)
    · rw [rd_fld (j := 9) _ (by omega) (by omega), h9, List.length_eraseIdx_of_lt ha]
    · have hw : w < v.1.length - 1 := by have := (List.getElem?_eq_some_iff.mp hq).1; rw [List.length_eraseIdx_of_lt ha] at this; exact this
      have b2 : ∀ (N : Mem) i, i < 16 → rdNow N (8 + i) = gi N 142 i := fun N i hi => rd_in N (k := 142) (n := 16) (c := 8) (by omega) i hi
      have b3 : ∀ (N : Mem) i, i < 192 → rdNow N (24 + i) = gi N 143 i := fun N i hi => rd_in N (k := 143) (n := 192) (c := 24) (by omega) i hi
      have b4 : ∀ (N : Mem) i, i < 16 → rdNow N (216 + i) = gi N 144 i := fun N i hi => rd_in N (k := 144) (n := 16) (c := 216) (by omega) i hi
      rw [List.getElem?_eraseIdx] at hq
      rw [b2 _ _ (by omega), b4 _ _ (by omega), r1, r2, (s0 142 (by omega)).1, (s0 144 (by omega)).1]
      by_cases q1 : w < a
      · rw [if_pos q1] at hq
        obtain ⟨p1, p2, p3⟩ := h.2.1 w q hq
        rw [if_neg (by omega), if_neg (by omega), ← b2 _ _ (by omega), ← b4 _ _ (by omega)]
        refine ⟨p1, fun k x hk => ?_, p3⟩
        have hk2 : k < 12 := Nat.lt_of_lt_of_le (List.getElem?_eq_some_iff.mp hk).1 (hv.2.1 q (List.mem_of_getElem? hq)).1.2.1
        rw [b3 _ _ (by omega), r3, if_neg (by omega), (s0 143 (by omega)).1, ← b3 _ _ (by omega)]
        exact p2 k x hk
      · rw [if_neg q1] at hq
        obtain ⟨p1, p2, p3⟩ := h.2.1 (w + 1) q hq
        rw [if_pos (by omega), if_pos (by omega), ← b2 _ _ (by omega), ← b4 _ _ (by omega)]
        refine ⟨p1, fun k x hk => ?_, p3⟩
        have hk2 : k < 12 := Nat.lt_of_lt_of_le (List.getElem?_eq_some_iff.mp hk).1 (hv.2.1 q (List.mem_of_getElem? hq)).1.2.1
        have ee : 12 * w + k + 12 = 12 * (w + 1) + k := by omega
        rw [b3 _ _ (by omega), r3, if_pos (by omega), (s0 143 (by omega)).1, ee, ← b3 _ _ (by omega)]
        exact p2 k x hk
    · by_cases q : o < 280
      · obtain ⟨k, n, c, hb, q2⟩ := blk_at q
        have hk : k ≠ 139 ∧ k ≠ 142 ∧ k ≠ 143 ∧ k ≠ 144 := by unfold blkOf at hb; omega
        have e1 : o = c + (o - c) := by omega
        rw [e1, rd_in _ hb _ (by omega), rd_in M hb _ (by omega), (hs k hk).1]
      · rw [rd_fld (j := o - 271) _ (by omega) (by omega), rd_fld (j := o - 271) _ (by omega) (by omega), hf _ (by omega)]
theorem okN.erase {v : PV} (h : okN v) (a : Nat) : okN (v.1.eraseIdx a, v.2) := by
  obtain ⟨⟨v1, v2, v3⟩, h0⟩ := h
  refine ⟨⟨?_, fun q hq => v2 q (List.mem_of_mem_eraseIdx hq), v3⟩, h0⟩
  have := List.length_eraseIdx_le v.1 a
  show (v.1.eraseIdx a).length ≤ 16
  omega
theorem op_drops {M : Mem} (hI : Inv M) (p : Int32) : both M (f_X8_drops p) (f_X9_drops p) := by
  have hI' := hI
  obtain ⟨now, img, st, ct, hist, ls, rw_, R, hg, hC, hM⟩ := hI
  obtain ⟨z, z1, z2, rfl⟩ := iz_ex p
  have hf' : f_X8_drops (iz z) M = _ := b1_some (c_has hC.1.1.1 hg.1.1.1 z1 z2)
  have hg' : ∀ M', gi M' 139 9 = gi M 139 9 → f_X9_drops (iz z) M' = _ := fun M' e => b1_some (m_isWord (e.trans hM.1.count) hg.1.1.1 z1 z2)
  by_cases q : 0 ≤ z ∧ z < now.1.length
  · rw [if_pos q] at hf'
    obtain ⟨a, rfl⟩ : ∃ a : Nat, z = (a : Int) := ⟨z.toNat, by omega⟩
    have ha : a < now.1.length := by omega
    refine both_change' (G := fun (M4 : Mem) => bq1 (f_X9_drop (iz (a : Int)) M4) (fun (M6 : Mem) => some ((gi M6 139 9), M6))) hg hC hM (hf'.trans (if_neg (by decide))) (fun M' hs => ?_) ⟨iz ((now.1.length - 1 : Nat) : Int), (now.1.eraseIdx a, now.2), hg.1.erase a, fun N h => ?_, fun N h => ?_⟩
    · have h1 := hg' M' (by rw [(hs 139 (by omega)).1])
      rw [if_pos q] at h1
      exact h1.trans (if_neg (by decide))
    · obtain ⟨N', e, w1, w2, w3⟩ := c_wdrop (k := 3) (by rfl) (by rfl) h.1 hg.1.1.1 ha
      refine ⟨N', by show bq2 _ _ = _; rw [b2_id]; exact e, ⟨w1, h.2.1.same (w3.mono (fun k hk => by omega)), fun i hi => ?_, fun i hi => ?_⟩, w3.mono (fun k hk => by omega)⟩
      · rw [(w3 2 (by omega)).1]; exact h.2.2.1 i hi
      · rw [(w3 1 (by omega)).1]; exact h.2.2.2 i hi
    · obtain ⟨N', e, w1, w2, w3, w4⟩ := m_wdrop hg.1.1 h ha
      exact ⟨N', by show bq1 _ _ = _; rw [e, b_s1, w1], w2, w4.mono (fun k hk => by omega), fun j hj => w3 j (by omega)⟩
  · rw [if_neg q] at hf'
    refine both_no' hI' (v := 1) (by omega) (hf'.trans ?_) (fun M' hs => ?_)
    · show (if (0 : Int32) = 0 then _ else _) = _
      rw [if_pos rfl, b2_id]; rfl
    · have h1 := hg' M' (by rw [(hs 139 (by omega)).1])
      rw [if_neg q] at h1
      refine h1.trans ?_
      show (if (0 : Int32) = 0 then _ else _) = _
      rw [if_pos rfl, b2_id]; rfl
