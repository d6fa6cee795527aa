/-! a statement told by the reference -/
def mSg (M : Mem) (ls : List Nat) : Prop := ∀ (i a : Nat), ls[i]? = some a → gi M 156 i = iz (a : Int)
def kZ (M M' : Mem) : Prop := sameOn (fun k => k < 139 ∨ k = 140 ∨ (149 ≤ k ∧ k ≠ 162)) M M' ∧ ∀ j, j < 9 ∨ 21 ≤ j → gi M' 139 j = gi M 139 j
theorem kZ.rf {M : Mem} : kZ M M := ⟨sameOn.rf, fun _ _ => rfl⟩
theorem kZ.tr {M M' M'' : Mem} (h : kZ M M') (h' : kZ M' M'') : kZ M M'' := ⟨h.1.tr h'.1, fun j hj => (h'.2 j hj).trans (h.2 j hj)⟩
theorem kZ.of {M M' : Mem} (h : sameOn (fun k => k < 141 ∨ (149 ≤ k ∧ k ≠ 162)) M M') : kZ M M' := ⟨h.mono (fun a ha => by omega), fun j _ => by rw [(h 139 (by omega)).1]⟩
theorem kZ.fld {M : Mem} {j : Nat} {x : Int32} (h : 9 ≤ j ∧ j < 21) : kZ M (si M 139 j x) := ⟨sameOn.si (by omega), fun t ht => by rw [gi_si, if_neg (by omega)]⟩
theorem rd_far2 {M M' : Mem} (h : ∀ k, (k = 141 ∨ (145 ≤ k ∧ k < 149)) → gi M' k = gi M k) (hj : ∀ j, 10 ≤ j → j < 21 → gi M' 139 j = gi M 139 j) (o : Nat) (ho : o < 8 ∨ (232 ≤ o ∧ o < 280) ∨ (281 ≤ o ∧ o < 292)) : rdNow M' o = rdNow M o := by
  unfold rdNow
  rw [h 141 (by omega), h 145 (by omega), h 146 (by omega), h 147 (by omega), h 148 (by omega)]
  by_cases r1 : o < 8
  · rw [if_pos r1, if_pos r1]
  have r2 : ¬ o < 24 := by omega
  have r3 : ¬ o < 216 := by omega
  have r4 : ¬ o < 232 := by omega
  rw [if_neg r1, if_neg r2, if_neg r3, if_neg r4, if_neg r1, if_neg r2, if_neg r3, if_neg r4]
  by_cases r5 : o < 240
  · rw [if_pos r5, if_pos r5]
  rw [if_neg r5, if_neg r5]
  by_cases r6 : o < 264
  · rw [if_pos r6, if_pos r6]
  rw [if_neg r6, if_neg r6]
  by_cases r7 : o < 272
  · rw [if_pos r7, if_pos r7]
  rw [if_neg r7, if_neg r7]
  by_cases r8 : o < 280
  · rw [if_pos r8, if_pos r8]
  rw [if_neg r8, if_neg r8]
  exact hj _ (by omega) (by omega)
theorem lrun_let {ls : List Nat} : ∀ m p t, t < lrun ls m p → isL ls (p + t) = true
  | 0, p, t, h => absurd h (by show ¬ t < 0; omega)
  | m + 1, p, t, h => by
    have eL : lrun ls (m + 1) p = (if isL ls p = true then lrun ls m (p + 1) + 1 else 0) := rfl
    rw [eL] at h
    by_cases q : isL ls p = true
    · rw [if_pos q] at h
      by_cases h0 : t = 0
      · rw [h0]; exact q
      · have := lrun_let (ls := ls) m (p + 1) (t - 1) (by omega)
        rw [show p + 1 + (t - 1) = p + t by omega] at this; exact this
    · rw [if_neg q] at h; omega
theorem lts_at {ls : List Nat} : ∀ (a p k b : Nat), (lts ls a p)[k]? = some b → b = (sg ls (p + k) - 97).toNat
  | 0, p, k, b, h => by
    have h : ([] : List Nat)[k]? = some b := h
    simp at h
  | a + 1, p, k, b, h => by
    have h : ((sg ls p - 97).toNat :: lts ls a (p + 1))[k]? = some b := h
    cases k with
    | zero =>
      have h : some (sg ls p - 97).toNat = some b := h
      rw [Nat.add_zero]; exact (Option.some.inj h).symm
    | succ k =>
      have h : (lts ls a (p + 1))[k]? = some b := h
      have := lts_at a (p + 1) k b h
      rw [show p + (k + 1) = p + 1 + k by omega]; exact this
theorem m_let {M : Mem} {ls : List Nat} (hs : mSg M ls) {q : Nat} (h : isL ls q = true) : q < ls.length ∧ gi M 156 q - (97 : Int32) = iz (((sg ls q - 97).toNat : Nat) : Int) := by
  have hh : 97 ≤ sg ls q ∧ sg ls q ≤ 104 := of_decide_eq_true h
  have hi := sg_in (ls := ls) (i := q) (by omega)
  obtain ⟨a, ha, ea⟩ := sg_at hi
  refine ⟨hi, ?_⟩
  rw [hs q a ha, ← ea, show (97 : Int32) = iz 97 from rfl, iz_sub]
  congr 1; omega
theorem m_cWL {ls : List Nat} (hl : okSh ls) {i p a n : Nat} (hi : i < 49) (ha : a = lrun ls 12 p) (hn : n < 16) : ∀ (d f k : Nat) (M : Mem), k + d = a → d < f → mSg M ls → gi M 160 i = iz (p : Int) → gi M 161 i = iz (a : Int) → gi M 139 9 = iz (n : Int) →
    ∃ M', lq2 (f_X9_comesWord_L38 (iz (i : Int))) f (iz (k : Int)) M = some M' ∧ (∀ t, gi M' 143 t = if 12 * n + k ≤ t ∧ t < 12 * n + a then iz (((sg ls (p + (t - 12 * n)) - 97).toNat : Nat) : Int) else gi M 143 t) ∧ sameOn (fun k => k ≠ 143) M M' := by
  have h96 := hl.1
  have hle := lrun_le (ls := ls) 12 p
  have hcl : (iz (i : Int) : Int32).toNatClampNeg = i := clN (by omega)
  intro d
  induction d with
  | zero =>
    intro f k M e1 e2 hs h160 h161 h9
    obtain ⟨f, rfl⟩ : ∃ g, f = g + 1 := ⟨f - 1, by omega⟩
    refine ⟨M, ?_, fun t => by rw [if_neg (by omega)], sameOn.rf⟩
    rw [lq2_s]
    generalize lq2 (f_X9_comesWord_L38 (iz (i : Int))) f = K
    unfold f_X9_comesWord_L38
    rw [g_t (inB_n hi (by omega)), if_pos]
    rw [hcl, h161]; exact le_cnt (by omega) (by omega)
  | succ d ih =>
    intro f k M e1 e2 hs h160 h161 h9
    obtain ⟨f, rfl⟩ : ∃ g, f = g + 1 := ⟨f - 1, by omega⟩
    obtain ⟨b1, b2⟩ := m_let hs (lrun_let (ls := ls) 12 p k (by omega))
    obtain ⟨M1, e1'⟩ : ∃ M1, M1 = si M 143 (12 * n + k) (iz (((sg ls (p + k) - 97).toNat : Nat) : Int)) := ⟨_, rfl⟩
    have s1 : sameOn (fun k => k ≠ 143) M M1 := by rw [e1']; exact sameOn.si (by omega)
    obtain ⟨M', r1, r2, r3⟩ := ih f (k + 1) M1 (by omega) (by omega) (fun i a ha => by rw [(s1 156 (by omega)).1]; exact hs i a ha) (by rw [(s1 160 (by omega)).1]; exact h160) (by rw [(s1 161 (by omega)).1]; exact h161) (by rw [(s1 139 (by omega)).1]; exact h9)
    refine ⟨M', ?_, fun t => ?_, s1.tr r3⟩
    · have i0 : (12 : Int32) * iz (n : Int) + iz (k : Int) = iz ((12 * n + k : Nat) : Int) := by rw [show (12 : Int32) = iz (12 : Int) from rfl, iz_mul, iz_add]; congr 1
      have i1 : iz (p : Int) + iz (k : Int) = iz ((p + k : Nat) : Int) := iz_add _ _
      have c1 : (iz ((12 * n + k : Nat) : Int) : Int32).toNatClampNeg = 12 * n + k := clN (by omega)
      have c2 : (iz ((p + k : Nat) : Int) : Int32).toNatClampNeg = p + k := clN (by omega)
      rw [lq2_s]
      generalize lq2 (f_X9_comesWord_L38 (iz (i : Int))) f = K at r1 ⊢
      unfold f_X9_comesWord_L38
      rw [g_t (inB_n hi (by omega)), if_neg (show ¬ gi M 161 ((iz (i : Int) : Int32).toNatClampNeg) ≤ iz (k : Int) by rw [hcl, h161]; exact nle_cnt (by omega) (by omega)), g_t (inB_n hi (by omega)), hcl, h160, i1, g_t (inB_n (by omega) (by omega)), h9, i0, g_t (inB_n (by omega) (by omega)), nmq_q, nmq_q, c1, c2, b2, ← e1', iz_s]; exact r1
    · rw [r2 t, e1', gi_si]
      by_cases q : t = 12 * n + k
      · rw [if_neg (by omega), if_pos ⟨rfl, q⟩, if_pos (by omega), q, show 12 * n + k - 12 * n = k by omega]
      · rw [if_neg (show ¬ (143 = 143 ∧ t = 12 * n + k) by omega)]
        by_cases q2 : 12 * n + k ≤ t ∧ t < 12 * n + a
        · rw [if_pos q2, if_pos (by omega)]
        · rw [if_neg q2, if_neg (by omega)]
theorem m_tWord {ls : List Nat} (hl : okSh ls) {v : PV} (hv : okV v) {i p : Nat} (hi : i < 49) {M : Mem} (hs : mSg M ls) (h160 : gi M 160 i = iz (p : Int)) (h161 : gi M 161 i = iz (lrun ls 12 p : Int)) (hm : mPar (rdNow M) v) :
    ∃ M', f_X9_comesWord (iz (i : Int)) M = some ((if v.1.length < 16 then 1 else 0), M') ∧ (v.1.length < 16 → mPar (rdNow M') (v.1 ++ [(lts ls (lrun ls 12 p) p, 0)], v.2)) ∧ kZ M M' := by
  have h16 := hv.1
  have h9 := hm.count
  have hle := lrun_le (ls := ls) 12 p
  have hcl : (iz (i : Int) : Int32).toNatClampNeg = i := clN (by omega)
  by_cases q : v.1.length < 16
  case neg =>
    refine ⟨M, ?_, fun h => absurd h q, kZ.rf⟩
    unfold f_X9_comesWord
    rw [h9, if_pos (show iz (v.1.length : Int) = (16 : Int32) by rw [show v.1.length = 16 by omega]; rfl), if_neg q]
  obtain ⟨n, hn⟩ : ∃ n, n = v.1.length := ⟨_, rfl⟩
  rw [← hn] at h9 q
  obtain ⟨M4, e4⟩ : ∃ M4, M4 = si M 142 n (iz (lrun ls 12 p : Int)) := ⟨_, rfl⟩
  obtain ⟨M6, e6⟩ : ∃ M6, M6 = si M4 144 n (0 : Int32) := ⟨_, rfl⟩
  have s4 : sameOn (fun k => k ≠ 142) M M4 := by rw [e4]; exact sameOn.si (by omega)
  have s6 : sameOn (fun k => k ≠ 144) M4 M6 := by rw [e6]; exact sameOn.si (by omega)
  have s46 : sameOn (fun k => k ≠ 142 ∧ k ≠ 144) M M6 := (s4.mono (fun a ha => by omega)).tr (s6.mono (fun a ha => by omega))
  have h9' : gi M6 139 9 = iz (n : Int) := by rw [(s46 139 (by omega)).1]; exact h9
  obtain ⟨M11, r1, r2, r3⟩ := m_cWL hl (i := i) (p := p) (a := lrun ls 12 p) (n := n) hi rfl q (lrun ls 12 p) FU 0 M6 (by omega) (by rw [FU_eq]; omega) (fun i a ha => by rw [(s46 156 (by omega)).1]; exact hs i a ha) (by rw [(s46 160 (by omega)).1]; exact h160) (by rw [(s46 161 (by omega)).1]; exact h161) h9'
  have r1' : lq2 (f_X9_comesWord_L38 (iz (i : Int))) FU (0 : Int32) M6 = _ := r1
  have h9'' : gi M11 139 9 = iz (n : Int) := by rw [(r3 139 (by omega)).1]; exact h9'
  obtain ⟨M12, e12⟩ : ∃ M12, M12 = si M11 139 9 (gi M11 139 9 + 1) := ⟨_, rfl⟩
  have s12 : sameOn (fun k => k ≠ 139) M11 M12 := by rw [e12]; exact sameOn.si (by omega)
  have sAll : sameOn (fun k => k ≠ 139 ∧ k ≠ 142 ∧ k ≠ 143 ∧ k ≠ 144) M M12 := ((s46.mono (fun a ha => by omega)).tr (r3.mono (fun a ha => by omega))).tr (s12.mono (fun a ha => by omega))
  have fAll : ∀ j, j ≠ 9 → gi M12 139 j = gi M 139 j := fun j hj => by rw [e12, gi_si, if_neg (by omega), (r3 139 (by omega)).1, (s46 139 (by omega)).1]
  have g142 : ∀ w, gi M12 142 w = if w = n then iz (lrun ls 12 p : Int) else gi M 142 w := fun w => by
    rw [(s12 142 (by omega)).1, (r3 142 (by omega)).1, (s6 142 (by omega)).1, e4, gi_si]
    by_cases r : w = n
    · rw [if_pos ⟨rfl, r⟩, if_pos r]
    · rw [if_neg (by omega), if_neg r]
  have g144 : ∀ w, gi M12 144 w = if w = n then (0 : Int32) else gi M 144 w := fun w => by
    rw [(s12 144 (by omega)).1, (r3 144 (by omega)).1, e6, gi_si, (s4 144 (by omega)).1]
    by_cases r : w = n
    · rw [if_pos ⟨rfl, r⟩, if_pos r]
    · rw [if_neg (by omega), if_neg r]
  have g143 : ∀ t, gi M12 143 t = if 12 * n ≤ t ∧ t < 12 * n + lrun ls 12 p then iz (((sg ls (p + (t - 12 * n)) - 97).toNat : Nat) : Int) else gi M 143 t := fun t => by
    rw [(s12 143 (by omega)).1, r2 t, Nat.add_zero, (s46 143 (by omega)).1]
  have hb2 : blkOf 142 16 8 := by unfold blkOf; omega
  have hb3 : blkOf 143 192 24 := by unfold blkOf; omega
  have hb4 : blkOf 144 16 216 := by unfold blkOf; omega
  refine ⟨M12, ?_, fun _ => ?_, sAll.mono (fun a ha => by omega), fun j hj => fAll j (by omega)⟩
  · unfold f_X9_comesWord
    rw [← hn, h9, if_neg (show ¬ iz (n : Int) = (16 : Int32) from ne_cnt (i := 16) (by omega) (by omega) (by omega)), g_t (inB_n hi (by omega)), g_t (inB_n q (by omega)), nmq_q, hcl, h161, clN (by omega), ← e4, (s4 139 (by omega)).1, h9, g_t (inB_n q (by omega)), nmq_q, clN (by omega), ← e6, r1', b_s1, nmq_q, ← e12, if_pos q]
  · refine hm.words hv ?_ (fun w x hx => ?_) (fun o ho => rd_far2 (fun k hk => (sAll k (by omega)).1) (fun j h1 h2 => fAll j (by omega)) o ho)
    · rw [rd_fld (j := 9) _ (by omega) (by omega), e12, gi_si, if_pos ⟨rfl, rfl⟩, h9'', iz_s, List.length_append, ← hn]; rfl
    · rcases snoc_at hx with ⟨t1, t2⟩ | ⟨t1, t2⟩
      · obtain ⟨p1, p2, p3⟩ := hm.2.1 w x t2
        refine ⟨?_, fun k b hk => ?_, ?_⟩
        · rw [rd_in _ hb2 w (by omega), g142, if_neg (by omega), ← rd_in M hb2 w (by omega)]; exact p1
        · have hk2 : k < 12 := Nat.lt_of_lt_of_le (List.getElem?_eq_some_iff.mp hk).1 (hv.2.1 x (List.mem_of_getElem? t2)).1.2.1
          rw [rd_in _ hb3 (12 * w + k) (by omega), g143, if_neg (by omega), ← rd_in M hb3 (12 * w + k) (by omega)]; exact p2 k b hk
        · rw [rd_in _ hb4 w (by omega), g144, if_neg (by omega), ← rd_in M hb4 w (by omega)]; exact p3
      · rw [t1, t2, ← hn]
        refine ⟨?_, fun k b hk => ?_, ?_⟩
        · rw [rd_in _ hb2 n (by omega), g142, if_pos rfl]
          show _ = iz ((lts ls (lrun ls 12 p) p).length : Int)
          rw [lts_len]
        · have hk : (lts ls (lrun ls 12 p) p)[k]? = some b := hk
          have hk2 : k < lrun ls 12 p := by have := (List.getElem?_eq_some_iff.mp hk).1; rw [lts_len] at this; exact this
          rw [rd_in _ hb3 (12 * n + k) (by omega), g143, if_pos (by omega), show 12 * n + k - 12 * n = k by omega, lts_at _ _ _ _ hk]
        · rw [rd_in _ hb4 n (by omega), g144, if_pos rfl]; rfl
