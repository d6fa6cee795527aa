/-! what was is remembered -/
theorem isT_hist : ∀ s : Nat, s < 8 → isT 3 (36 + 11 * s) := by decide
theorem dT_hist : ∀ s : Nat, s < 8 → dT 3 (36 + 11 * s) := by decide
theorem c_slotAt {M : Mem} {st a : Nat} (h1 : gi M 34 1 = iz (st : Int)) (hst : st < 8) (ha : a ≤ 8) : f_X1_slotAt (iz (a : Int)) M = some (some (36 + 11 * ((st + a) % 8))) := by
  have e : irm (iz (st : Int) + iz (a : Int)) (8 : Int32) = iz (((st + a) % 8 : Nat) : Int) := by
    rw [iz_add, show (8 : Int32) = iz (8 : Int) from rfl, iz_irm (by omega) (by omega) (by omega) (by omega)]; congr 1
  have hl : (st + a) % 8 < 8 := Nat.mod_lt _ (by omega)
  have c1 : ¬ iz (((st + a) % 8 : Nat) : Int) < 0 := not_neg _ (by omega)
  have c2 : ¬ (8 : Int32) ≤ iz (((st + a) % 8 : Nat) : Int) := fun q => by
    have := (iz_cnt (n := 8) (m := (st + a) % 8) (by omega) (by omega)).2.2.mp q
    omega
  unfold f_X1_slotAt
  rw [nmq_q, h1, e, if_neg c1, if_neg c2, g_t (inB_n hl (by omega)), clN (by omega)]
def pushSt (st ct : Nat) : Nat := if ct = 8 then (st + 1) % 8 else st
def pushCt (ct : Nat) : Nat := if ct = 8 then 8 else ct + 1
def pushH (st ct : Nat) (hist : Nat → PV) (now : PV) : Nat → PV := fun i => if i = (st + ct) % 8 then now else hist i
theorem push_of {st ct a : Nat} (hst : st < 8) (hct : ct ≤ 8) (ha : a < pushCt ct) : (pushSt st ct + a) % 8 = (st + ct) % 8 ∨ ∃ b, b < ct ∧ (pushSt st ct + a) % 8 = (st + b) % 8 ∧ (st + b) % 8 ≠ (st + ct) % 8 := by
  unfold pushSt; unfold pushCt at ha
  by_cases q : ct = 8
  · rw [if_pos q] at ha ⊢
    by_cases q2 : a = 7
    · left; omega
    · right; exact ⟨a + 1, by omega, by omega, by omega⟩
  · rw [if_neg q] at ha ⊢
    by_cases q2 : a = ct
    · left; rw [q2]
    · right; exact ⟨a, by omega, rfl, by omega⟩
theorem pushSt_lt {st ct : Nat} (h : st < 8) : pushSt st ct < 8 := by unfold pushSt; split <;> omega
theorem pushCt_le {ct : Nat} (h : ct ≤ 8) : pushCt ct ≤ 8 := by unfold pushCt; split <;> omega
variable {M M' : Mem} {now now' : PV} {img : Option PV} {st ct : Nat} {hist : Nat → PV} {ls rw_ : List Nat} {R : Nat → Int32}
theorem okG.push (h : okG now img st ct hist ls rw_) : okG now img (pushSt st ct) (pushCt ct) (pushH st ct hist now) ls rw_ := by
  obtain ⟨g1, g2, g3, g4, g5, g6⟩ := h
  refine ⟨g1, g2, pushSt_lt g3, pushCt_le g4, fun a ha => ?_, g6⟩
  unfold pushH
  rcases push_of g3 g4 ha with q | ⟨b, q1, q2, q3⟩
  · rw [if_pos q]; exact g1
  · rw [q2, if_neg q3]; exact g5 b q1
theorem okG.setN (h : okG now img st ct hist ls rw_) (hn : okN now') : okG now' img st ct hist ls rw_ := ⟨hn, h.2⟩
theorem c_remember (hg : okG now img st ct hist ls rw_) (h : IC M now img st ct hist ls rw_ R) :
    ∃ M', f_X1_remember 1 M = some M' ∧ IC M' now img (pushSt st ct) (pushCt ct) (pushH st ct hist now) ls rw_ R ∧ sameOn (fun k => k < 34 ∨ 124 ≤ k) M M' := by
  obtain ⟨h1, h2, h3, ⟨h4, h5, h6⟩, h7⟩ := h
  obtain ⟨g1, g2, g3, g4, g5, g6⟩ := hg
  obtain ⟨n, hn⟩ : ∃ n, n = if ct = 8 then 7 else ct := ⟨_, rfl⟩
  have hn8 : n < 8 := by rw [hn]; split <;> omega
  have hsl : (pushSt st ct + n) % 8 = (st + ct) % 8 := by rw [hn]; unfold pushSt; split <;> omega
  have hct' : n + 1 = pushCt ct := by rw [hn]; unfold pushCt; split <;> omega
  obtain ⟨M1, e1, r1, r2, s1⟩ : ∃ M1, (if (gi M 34 2) = (8 : Int32) then (nmq (si M 34 1 (irm ((gi M 34 1) + (1 : Int32)) (8 : Int32))) (fun (M19 : Mem) => nmq (si M19 34 2 ((gi M19 34 2) - (1 : Int32))) (fun (M20 : Mem) => (some (M20))))) else (some (M))) = some M1 ∧ gi M1 34 1 = iz (pushSt st ct : Nat) ∧ gi M1 34 2 = iz (n : Int) ∧ sameOn (fun k => k ≠ 34) M M1 := by
    by_cases q : ct = 8
    · have q0 : gi M 34 2 = (8 : Int32) := by rw [h5, q]; rfl
      have e : irm (gi M 34 1 + (1 : Int32)) (8 : Int32) = iz (pushSt st ct : Nat) := by
        rw [h4, iz_s, show (8 : Int32) = iz (8 : Int) from rfl, iz_irm (by omega) (by omega) (by omega) (by omega)]
        unfold pushSt; rw [if_pos q]; rfl
      refine ⟨si (si M 34 1 (iz (pushSt st ct : Nat))) 34 2 (iz (n : Int)), ?_, ?_, ?_, (sameOn.si (by omega)).tr (sameOn.si (by omega))⟩
      · rw [if_pos q0, nmq_q, nmq_q, e, gi_si, if_neg (by omega), q0, hn, if_pos q]; rfl
      · rw [gi_si, if_neg (by omega), gi_si, if_pos ⟨rfl, rfl⟩]
      · rw [gi_si, if_pos ⟨rfl, rfl⟩]
    · have q0 : ¬ gi M 34 2 = (8 : Int32) := by
        rw [h5]; exact fun e => q ((iz_cnt (n := ct) (m := 8) (by omega) (by omega)).2.1.mp e)
      refine ⟨M, if_neg q0, ?_, ?_, sameOn.rf⟩
      · rw [h4]; unfold pushSt; rw [if_neg q]
      · rw [h5, hn, if_neg q]
  have hsl8 : (st + ct) % 8 < 8 := Nat.mod_lt _ (by omega)
  obtain ⟨M2, e2, p2, s2⟩ := c_become (p := 36 + 11 * ((st + ct) % 8)) (q := 1) (M := M1) (v := now) (isT_hist _ hsl8) (by decide) (by omega) (h1.same (s1.mono (fun k hk => by omega))) g1.1
  have hs2 : gi M2 34 2 = iz (n : Int) := by rw [(s2 34 (by omega)).1]; exact r2
  refine ⟨si M2 34 2 (iz ((n + 1 : Nat) : Int)), ?_, ?_, ?_⟩
  · unfold f_X1_remember
    rw [e1, b_s1, b_s1, r2, c_slotAt r1 (pushSt_lt g3) (by omega), b_s1, hsl]
    show gq (dT 3 _) _ = _
    rw [g_t (dT_hist _ hsl8), e2, b_s1, b_s1, nmq_q, hs2, iz_s]
  · have hs : sameOn (fun k => k < 34 ∨ (124 ≤ k ∧ k < 139)) M (si M2 34 2 (iz ((n + 1 : Nat) : Int))) := ((s1.mono (fun k hk => by omega)).tr (s2.mono (fun k hk => by omega))).tr (sameOn.si (by omega))
    refine IC.setHist ⟨h1, h2, h3, ⟨h4, h5, h6⟩, h7⟩ hs ⟨?_, ?_, fun a ha => ?_⟩
    · rw [gi_si, if_neg (by omega), (s2 34 (by omega)).1]; exact r1
    · rw [gi_si, if_pos ⟨rfl, rfl⟩, hct']
    · unfold pushH
      rcases push_of g3 g4 ha with q | ⟨b, q1, q2, q3⟩
      · rw [q, if_pos rfl]
        exact p2.same (sameOn.si (by omega))
      · rw [q2, if_neg q3]
        have hb8 : (st + b) % 8 < 8 := Nat.mod_lt _ (by omega)
        exact (((h6 b q1).same (s1.mono (fun k hk => by omega))).same (s2.mono (fun k hk => by omega))).same (sameOn.si (by omega))
  · exact ((s1.mono (fun k hk => by omega)).tr (s2.mono (fun k hk => by omega))).tr (sameOn.si (by omega))
