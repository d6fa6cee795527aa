/-! back, image, on -/
variable {M M' : Mem} {now now' : PV} {img : Option PV} {st ct : Nat} {hist : Nat → PV} {ls rw_ : List Nat} {R : Nat → Int32}
theorem IM.setNow2 (hg : okG now img st ct hist ls rw_) (h : IM M now img st ct hist ls rw_ R) (hs : sameOn (fun k => k = 140 ∨ k = 156 ∨ k = 163 ∨ k = 168) M M') (hf : fldM (fun j => j = 36 ∨ j = 42 ∨ j = 45 ∨ j = 46 ∨ j = 52) M M') (hn : mPar (rdNow M') now') : IM M' now' img st ct hist ls rw_ R := by
  obtain ⟨h1, h2, h3, ⟨h4, h5, h6⟩, ⟨h7, h8⟩, ⟨h9, h10⟩, h11⟩ := h
  obtain ⟨g1, g2, g3, g4, g5, -⟩ := hg
  have e : ∀ k, k = 140 ∨ k = 156 ∨ k = 163 ∨ k = 168 → gi M' k = gi M k := fun k hk => (hs k hk).1
  exact ⟨hn, fun v hv => (h2 v hv).congr (g2 v hv).1 (fun o ho => by unfold rdSeg; rw [e 163 (by omega)]), (hf 42 (by omega)).trans h3, ⟨(hf 45 (by omega)).trans h4, (hf 46 (by omega)).trans h5, fun a ha => (h6 a ha).congr (g5 a ha).1 (fun o ho => by unfold rdSeg; rw [e 163 (by omega)])⟩, ⟨(hf 36 (by omega)).trans h7, fun i a ha => by rw [e 156 (by omega)]; exact h8 i a ha⟩, ⟨(hf 52 (by omega)).trans h9, fun i a ha => by rw [e 168 (by omega)]; exact h10 i a ha⟩, fun i hi => by rw [e 140 (by omega)]; exact h11 i hi⟩
theorem okG.fewer (h : okG now img st ct hist ls rw_) {c : Nat} (hc : c ≤ ct) : okG now img st c hist ls rw_ := by
  obtain ⟨g1, g2, g3, g4, g5, g6⟩ := h
  exact ⟨g1, g2, g3, by omega, fun a ha => g5 a (by omega), g6⟩
theorem IC.fewer (h : IC M now img st ct hist ls rw_ R) {c : Nat} (hc : c ≤ ct) : IC (si M 34 2 (iz (c : Int))) now img st c hist ls rw_ R := by
  refine h.setHist (sameOn.si (by omega)) ⟨?_, ?_, fun a ha => ?_⟩
  · rw [gi_si, if_neg (by omega)]; exact h.2.2.2.1.1
  · rw [gi_si, if_pos ⟨rfl, rfl⟩]
  · exact (h.2.2.2.1.2.2 a (by omega)).same (sameOn.si (by omega))
theorem IM.fewer (hg : okG now img st ct hist ls rw_) (h : IM M now img st ct hist ls rw_ R) {c : Nat} (hc : c ≤ ct) : IM (si M 139 46 (iz (c : Int))) now img st c hist ls rw_ R := by
  have hx : ∀ x, gi (si M 139 46 (iz (c : Int))) 163 x = gi M 163 x := fun x => by rw [gi_si, if_neg (by omega)]
  refine h.setHist hg (sameOn.si (by omega)) (fun j hj => by rw [gi_si, if_neg (by omega)]) (fun x _ => hx x) ⟨?_, ?_, fun a ha => ?_⟩
  · rw [gi_si, if_neg (by omega)]; exact h.2.2.2.1.1
  · rw [gi_si, if_pos ⟨rfl, rfl⟩]
  · exact (h.2.2.2.1.2.2 a (by omega)).congr (hg.2.2.2.2.1 a (by omega)).1 (fun o _ => hx _)
/-- a fetch of the reference's -/
theorem IM.fetched (hg : okG now img st ct hist ls rw_) (h : IM M now img st ct hist ls rw_ R) {w : Nat} (hl : LoadS M (295 * w) 292 M') (hv : okN now') (hp : mPar (rdSeg M w) now') : IM M' now' img st ct hist ls rw_ R := by
  obtain ⟨l1, l2, l3, l4, l5⟩ := hl
  refine h.setNow2 hg (l5.mono (fun k hk => by omega)) (fun j hj => l3 j (by omega)) (hp.congr hv.1 (fun o ho => ?_))
  rw [l1 o ho, if_pos ho]; rfl
theorem refuse_same {M M1 : Mem} {v : Nat} (hv : v < 7) {x : Int32} (h : f_X8_refuse (iz (-(v : Int))) M = some (x, M1)) : sameOn (fun k => k ≠ 138) M M1 := by
  rw [c_refuse hv] at h
  cases h
  exact sameOn.si (by omega)
theorem op_back {M : Mem} (hI : Inv M) : both M f_X8_back f_X9_back := by
  have hI' := hI
  obtain ⟨now, img, st, ct, hist, ls, rw_, R, hg, hC, hM⟩ := hI
  have g3 := hg.2.2.1
  have g4 := hg.2.2.2.1
  by_cases q : ct = 0
  · have c1 : gi M 34 2 = 0 := by rw [hC.2.2.2.1.2.1, q]; rfl
    obtain ⟨M1, M2, e1, e2, i2⟩ := inv_no hI' (v := 3) (by omega)
    have : gi M1 139 46 = 0 := by
      have hs : sameOn (fun k => k ≠ 138) M M1 := refuse_same (v := 3) (by omega) e1
      rw [(hs 139 (by omega)).1, hM.2.2.2.1.2.1, q]; rfl
    refine ⟨iz (-((3 : Nat) : Int)), M1, M2, ?_, ?_, i2⟩
    · unfold f_X8_back; rw [if_pos c1, b2_id]; exact e1
    · unfold f_X9_back; rw [if_pos this, b2_id]; exact e2
  · obtain ⟨c, rfl⟩ : ∃ c, ct = c + 1 := ⟨ct - 1, by omega⟩
    have c1 : ¬ gi M 34 2 = 0 := by rw [hC.2.2.2.1.2.1]; exact iz_ne0 (by omega) (by omega) (by omega)
    have hsl8 : (st + c) % 8 < 8 := Nat.mod_lt _ (by omega)
    have h1 := hC.fewer (c := c) (by omega)
    have hg1 := hg.fewer (c := c) (by omega)
    have hok : okN (hist ((st + c) % 8)) := hg.2.2.2.2.1 c (by omega)
    have hpar : cPar (si M 34 2 (iz (c : Int))) (36 + 11 * ((st + c) % 8)) (hist ((st + c) % 8)) := (hC.2.2.2.1.2.2 c (by omega)).same (sameOn.si (by omega))
    obtain ⟨M2, e2, p2, s2⟩ := c_become (p := 1) (q := 36 + 11 * ((st + c) % 8)) (by decide) (isT_hist _ hsl8) (by omega) hpar hok.1
    have h2 := h1.setNow (s2.mono (fun k hk => by omega)) p2
    have ec : gi M 34 2 - (1 : Int32) = iz (c : Int) := by
      rw [hC.2.2.2.1.2.1, show (1 : Int32) = iz (1 : Int) from rfl, iz_sub]; congr 1; omega
    have e1 : f_X8_back M = some (iz (c : Int), M2) := by
      unfold f_X8_back f_X1_restore
      rw [if_neg c1, nmq_q, ec]
      have r2 : gi (si M 34 2 (iz (c : Int))) 34 2 = iz (c : Int) := by rw [gi_si, if_pos ⟨rfl, rfl⟩]
      rw [r2, c_slotAt h1.2.2.2.1.1 g3 (by omega), b_s1]
      show bq1 (gq (dT 3 _) _) _ = _
      rw [g_t (dT_hist _ hsl8), e2, b_s1, b_s1, (s2 34 (by omega)).1, r2]
    have hsM : sameOn (fun k => 139 ≤ k) M M2 := (sameOn.si (by omega)).tr (s2.mono (fun k hk => by omega))
    have hM2 := hM.same hg hsM
    have d1 : ¬ gi M2 139 46 = 0 := by rw [hM2.2.2.2.1.2.1]; exact iz_ne0 (by omega) (by omega) (by omega)
    have ew : (3 : Int32) + (irm (((gi M2 139 45) + (gi M2 139 46)) - (1 : Int32)) (8 : Int32)) = iz ((3 + (st + c) % 8 : Nat) : Int) := by
      rw [hM2.2.2.2.1.1, hM2.2.2.2.1.2.1, iz_add, show (1 : Int32) = iz (1 : Int) from rfl, iz_sub, show (8 : Int32) = iz (8 : Int) from rfl, iz_irm (by omega) (by omega) (by omega) (by omega), show (3 : Int32) = iz (3 : Int) from rfl, iz_add]
      congr 1; omega
    obtain ⟨M3, e3, l3⟩ := m_fetch (M := M2) (w := 3 + (st + c) % 8) (by omega)
    have h3 := hM2.fetched hg l3 hok (hM2.2.2.2.1.2.2 c (by omega))
    have ec3 : gi M3 139 46 - (1 : Int32) = iz (c : Int) := by
      rw [h3.2.2.2.1.2.1, show (1 : Int32) = iz (1 : Int) from rfl, iz_sub]; congr 1; omega
    refine ⟨_, M2, si M3 139 46 (iz (c : Int)), e1, ?_, hist ((st + c) % 8), img, st, c, hist, ls, rw_, R, hg1.setN hok, ?_, h3.fewer (hg.setN hok) (by omega)⟩
    · unfold f_X9_back
      rw [if_neg d1, ew, e3, b_s1, nmq_q, ec3, gi_si, if_pos ⟨rfl, rfl⟩]
    · refine IC.same ?_ (sameOn.si (by omega))
      exact h2.same (l3.2.2.2.2.mono (fun k hk => by omega))
theorem okG.imgd (h : okG now img st ct hist ls rw_) : okG now (some now) st ct hist ls rw_ := by
  obtain ⟨g1, g2, g6⟩ := h
  exact ⟨g1, fun v hv => by cases hv; exact g1, g6⟩
theorem op_image {M : Mem} (hI : Inv M) : both M f_X8_image f_X9_image := by
  obtain ⟨now, img, st, ct, hist, ls, rw_, R, hg, hC, hM⟩ := hI
  obtain ⟨M1, e1, p1, s1⟩ := c_become (p := 23) (q := 1) (M := M) (v := now) (by decide) (by decide) (by omega) hC.1 hg.1.1
  have hsB : sameOn (fun k => (1 ≤ k ∧ k < 23) ∨ (34 ≤ k ∧ k < 139)) M (si M1 0 9 (1 : Int32)) := (s1.mono (fun k hk => by omega)).tr (sameOn.si (by omega))
  have h1 : IC (si M1 0 9 (1 : Int32)) now (some now) st ct hist ls rw_ R := by
    refine hC.setImg hsB ?_ ?_ (p1.same (sameOn.si (by omega)))
    · rw [gi_si, if_neg (by omega), (s1 0 (by omega)).1]
    · rw [gi_si, if_pos ⟨rfl, rfl⟩]
  have hsM : sameOn (fun k => 139 ≤ k) M (si M1 0 9 (1 : Int32)) := (s1.mono (fun k hk => by omega)).tr (sameOn.si (by omega))
  generalize hMM : si M1 0 9 (1 : Int32) = M2 at h1 hsB hsM
  have hM2 := hM.same hg hsM
  have e2 : f_X8_image M = some (iz (now.1.length : Int), M2) := by
    unfold f_X8_image
    rw [e1, b_s1, nmq_q, hMM, h1.1.1.1]
  obtain ⟨M3, e3, t1, t2, t3, t4, t5⟩ := m_keep (M := si M2 139 42 (1 : Int32)) (w := 0) (by omega)
  rw [show ((0 : Nat) : Int) = 0 from rfl, iz_0] at e3
  simp only [Nat.mul_zero, Nat.zero_add, Nat.zero_le, true_and, Nat.sub_zero] at t1
  have hnow : mPar (rdNow (si M2 139 42 (1 : Int32))) now := hM2.1.congr hg.1.1 (rdNow.congr (sameOn.si (by omega)) (fun j q1 q2 => by rw [gi_si, if_neg (by omega)]))
  have h3 : IM M3 now (some now) st ct hist ls rw_ R := by
    refine hM2.setImg hg ((sameOn.si (by omega)).tr (t5.mono (fun k hk => by omega))) (fun j hj => (t3 j (by omega)).trans (by rw [gi_si, if_neg (by omega)])) ?_ (fun x hx => ?_) ?_
    · rw [t3 42 (by omega), gi_si, if_pos ⟨rfl, rfl⟩]
    · rw [t1, if_neg (by omega), gi_si, if_neg (by omega)]
    · refine hnow.congr hg.1.1 (fun o ho => ?_)
      unfold rdSeg
      rw [Nat.mul_zero, Nat.zero_add, t1, if_pos (by omega)]
  refine ⟨_, M2, M3, e2, ?_, now, some now, st, ct, hist, ls, rw_, R, hg.imgd, h1.same ((sameOn.si (by omega) : sameOn (fun k => k < 139) M2 (si M2 139 42 (1 : Int32))).tr (t5.mono (fun k hk => by omega))), h3⟩
  unfold f_X9_image
  rw [nmq_q, e3, b_s1]
  have := h3.1.1
  rw [rd_fld (j := 9) _ (by omega) (by omega)] at this
  rw [this]
theorem op_on {M : Mem} (hI : Inv M) : both M f_X8_on f_X9_on := by
  have hI' := hI
  obtain ⟨now, img, st, ct, hist, ls, rw_, R, hg, hC, hM⟩ := hI
  cases img with
  | none =>
    have c1 : gi M 0 9 = 0 := by rw [hC.2.2.1]; rfl
    obtain ⟨M1, M2, e1, e2, i2⟩ := inv_no hI' (v := 3) (by omega)
    have : gi M1 139 42 = 0 := by
      have hs : sameOn (fun k => k ≠ 138) M M1 := refuse_same (v := 3) (by omega) e1
      rw [(hs 139 (by omega)).1, hM.2.2.1]; rfl
    refine ⟨iz (-((3 : Nat) : Int)), M1, M2, ?_, ?_, i2⟩
    · unfold f_X8_on; rw [if_pos c1, b2_id]; exact e1
    · unfold f_X9_on; rw [if_pos this, b2_id]; exact e2
  | some v =>
    have hv : okN v := hg.2.1 v rfl
    have c1 : ¬ gi M 0 9 = 0 := by rw [hC.2.2.1]; exact iz_ne0 (z := 1) (by omega) (by omega) (by omega)
    obtain ⟨M1, e1, p1, s1⟩ := c_become (p := 1) (q := 23) (M := M) (v := v) (by decide) (by decide) (by omega) (hC.2.1 v rfl) hv.1
    have h1 := hC.setNow (s1.mono (fun k hk => by omega)) p1
    have h2 := h1.fewer (c := 0) (by omega)
    have hsM : sameOn (fun k => 139 ≤ k) M (si M1 34 2 (iz ((0 : Nat) : Int))) := (s1.mono (fun k hk => by omega)).tr (sameOn.si (by omega))
    have e2 : f_X8_on M = some (iz (v.1.length : Int), si M1 34 2 (iz ((0 : Nat) : Int))) := by
      unfold f_X8_on f_X1_forget
      rw [if_neg c1, e1, b_s1, nmq_q, b_s1]
      have : gi (si M1 34 2 (iz ((0 : Nat) : Int))) 3 3 = iz (v.1.length : Int) := h2.1.1.1
      exact congrArg (fun x => some (x, si M1 34 2 (iz ((0 : Nat) : Int)))) this
    generalize hMM : si M1 34 2 (iz ((0 : Nat) : Int)) = M2 at h2 hsM e2
    have hM2 := hM.same hg hsM
    have d1 : ¬ gi M2 139 42 = 0 := by rw [hM2.2.2.1]; exact iz_ne0 (z := 1) (by omega) (by omega) (by omega)
    obtain ⟨M3, e3, l3⟩ := m_fetch (M := M2) (w := 0) (by omega)
    rw [show ((0 : Nat) : Int) = 0 from rfl, iz_0] at e3
    have h3 := (hM2.fetched hg l3 hv (hM2.2.1 v rfl))
    have h4 := h3.fewer (hg.setN hv) (c := 0) (by omega)
    refine ⟨_, M2, si M3 139 46 (iz ((0 : Nat) : Int)), e2, ?_, v, some v, st, 0, hist, ls, rw_, R, (hg.setN hv).fewer (by omega), ?_, h4⟩
    · unfold f_X9_on
      rw [if_neg d1, e3, b_s1, nmq_q]
      rw [show (0 : Int32) = iz ((0 : Nat) : Int) from rfl]
      have := h4.1.1
      rw [rd_fld (j := 9) _ (by omega) (by omega)] at this
      exact congrArg (fun x => some (x, si M3 139 46 (iz ((0 : Nat) : Int)))) this
    · refine IC.same ?_ (sameOn.si (by omega))
      exact h2.same (l3.2.2.2.2.mono (fun k hk => by omega))
