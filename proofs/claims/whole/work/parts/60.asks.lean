/-! questions and refusals that touch scratch cells -/
theorem IC.no {M : Mem} {now : PV} {img : Option PV} {st ct : Nat} {hist : Nat → PV} {ls rw_ : List Nat} {R : Nat → Int32} {v : Nat} (hC : IC M now img st ct hist ls rw_ R) (hv : v < 7) : IC (si M 138 v (gi M 138 v + 1)) now img st ct hist ls rw_ (fun i => if i = v then R i + 1 else R i) := by
  obtain ⟨h1, h2, h3, ⟨h4, h5, h6⟩, ⟨h7, h8⟩, ⟨h9, h10⟩, h11⟩ := hC
  have e : ∀ {k : Nat}, k ≠ 138 → ∀ {w : Int32}, gi (si M 138 v w) k = gi M k := fun q1 => by intro w; exact ne_row q1
  have hs : ∀ (w : Int32), sameOn (fun k => k < 138) M (si M 138 v w) := fun w => sameOn.si (by omega)
  refine ⟨h1.same ((hs _).mono (fun a ha => by omega)), fun v' hv' => (h2 v' hv').same ((hs _).mono (fun a ha => by omega)), by rw [e (by decide)]; exact h3, ⟨by rw [e (by decide)]; exact h4, by rw [e (by decide)]; exact h5, fun a ha => (h6 a ha).same ((hs _).mono (fun b hb => by omega))⟩, ⟨by rw [e (by decide)]; exact h7, fun i a ha => by rw [e (by decide)]; exact h8 i a ha⟩, ⟨by rw [e (by decide)]; exact h9, fun i a ha => by rw [e (by decide)]; exact h10 i a ha⟩, fun i hi => ?_⟩
  rw [gi_si]
  show _ = (if i = v then R i + 1 else R i)
  by_cases hiv : i = v
  · rw [if_pos ⟨rfl, hiv⟩, if_pos hiv, h11 v hv, hiv]
  · rw [if_neg (fun q => hiv q.2), if_neg hiv, h11 i hi]
theorem IM.no {M : Mem} {now : PV} {img : Option PV} {st ct : Nat} {hist : Nat → PV} {ls rw_ : List Nat} {R : Nat → Int32} {v : Nat} (hg : okG now img st ct hist ls rw_) (hM : IM M now img st ct hist ls rw_ R) (hv : v < 7) : IM (si M 140 v (gi M 140 v + 1)) now img st ct hist ls rw_ (fun i => if i = v then R i + 1 else R i) := by
  obtain ⟨h1, h2, h3, ⟨h4, h5, h6⟩, ⟨h7, h8⟩, ⟨h9, h10⟩, h11⟩ := hM
  obtain ⟨g1, g2, g3, g4, g5, -⟩ := hg
  have e : ∀ {k : Nat}, k ≠ 140 → ∀ {w : Int32}, gi (si M 140 v w) k = gi M k := fun q1 => by intro w; exact ne_row q1
  refine ⟨h1.congr g1.1 (rdNow.congr (sameOn.si (by omega)) (fun j _ _ => by rw [e (by decide)])), fun v' hv' => (h2 v' hv').congr (g2 v' hv').1 (fun o ho => by unfold rdSeg; rw [e (by decide)]), by rw [e (by decide)]; exact h3, ⟨by rw [e (by decide)]; exact h4, by rw [e (by decide)]; exact h5, fun a ha => (h6 a ha).congr (g5 a ha).1 (fun o ho => by unfold rdSeg; rw [e (by decide)])⟩, ⟨by rw [e (by decide)]; exact h7, fun i a ha => by rw [e (by decide)]; exact h8 i a ha⟩, ⟨by rw [e (by decide)]; exact h9, fun i a ha => by rw [e (by decide)]; exact h10 i a ha⟩, fun i hi => ?_⟩
  rw [gi_si]
  show _ = (if i = v then R i + 1 else R i)
  by_cases hiv : i = v
  · rw [if_pos ⟨rfl, hiv⟩, if_pos hiv, h11 v hv, hiv]
  · rw [if_neg (fun q => hiv q.2), if_neg hiv, h11 i hi]
theorem keepC.hi {M M' : Mem} (h : keepC M M') : sameOn (fun k => 139 ≤ k) M M' := h.1.mono (fun k hk => by omega)
theorem both_noK {M : Mem} (h : Inv M) {v : Nat} (hv : v < 7) {f g : Mem → Option (Int32 × Mem)} (hf : ∃ Mc, keepC M Mc ∧ f M = f_X8_refuse (iz (-(v : Int))) Mc) (hg : ∀ M', sameOn (fun k => 139 ≤ k) M M' → ∃ Mm, keepM M' Mm ∧ g M' = f_X9_no (iz (-(v : Int))) Mm) : both M f g := by
  obtain ⟨now, img, st, ct, hist, ls, rw_, R, hG, hC, hM⟩ := h
  obtain ⟨Mc, kc, ef⟩ := hf
  have hC1 := (hC.keep kc).no hv
  have s1 : sameOn (fun k => 139 ≤ k) M (si Mc 138 v (gi Mc 138 v + 1)) := kc.hi.tr (sameOn.si (by omega))
  obtain ⟨Mm, km, eg⟩ := hg _ s1
  have hM1 := ((hM.same hG s1).keep hG km).no hG hv
  refine ⟨_, _, _, ef.trans (c_refuse hv), eg.trans (m_no hv), now, img, st, ct, hist, ls, rw_, _, hG, ?_, hM1⟩
  exact (hC1.same (km.1.mono (fun k hk => by omega))).same (sameOn.si (by omega))
theorem both_ask {M : Mem} (h : Inv M) {f g : Mem → Option (Int32 × Mem)} {r : Int32} (hf : ∃ Mc, keepC M Mc ∧ f M = some (r, Mc)) (hg : ∀ M', sameOn (fun k => 139 ≤ k) M M' → ∃ Mm, keepM M' Mm ∧ g M' = some (r, Mm)) : both M f g := by
  obtain ⟨Mc, kc, ef⟩ := hf
  obtain ⟨Mm, km, eg⟩ := hg _ kc.hi
  exact ⟨r, Mc, Mm, ef, eg, inv_ask h kc km⟩
theorem keepM.scr {M : Mem} {j : Nat} {x : Int32} : keepM M (si M 162 j x) := ⟨sameOn.si (by omega), fun i _ => by rw [gi_si, if_neg (by omega)], fun i _ => by rw [gi_si, if_neg (by omega)]⟩
/-- a change whose reference does something to scratch cells ahead -/
theorem both_change2 {M : Mem} {now : PV} {img : Option PV} {st ct : Nat} {hist : Nat → PV} {ls rw_ : List Nat} {R : Nat → Int32} {f g F G : Mem → Option (Int32 × Mem)} {Q : Mem → Prop} (hg : okG now img st ct hist ls rw_) (hC : IC M now img st ct hist ls rw_ R) (hM : IM M now img st ct hist ls rw_ R) (hf : f M = bq1 (f_X1_remember 1 M) F)
    (hg' : ∀ M', sameOn (fun k => 139 ≤ k) M M' → ∃ Mm, keepM M' Mm ∧ Q Mm ∧ g M' = bq1 (f_X9_remembers Mm) G) (hQ : ∀ M1 M2, Q M1 → sameOn (fun k => k ≠ 139 ∧ k ≠ 163) M1 M2 → Q M2)
    (h : ∃ r now', okN now' ∧ chC F now now' r ∧ ∀ M, Q M → mPar (rdNow M) now → ∃ M', G M = some (r, M') ∧ mPar (rdNow M') now' ∧ sameOn (fun k => k < 139 ∨ k = 140 ∨ k = 156 ∨ k = 163 ∨ k = 168) M M' ∧ fldM (fun j => 21 ≤ j) M M') : both M f g := by
  obtain ⟨r, now', hn, hF, hG⟩ := h
  obtain ⟨M1, e1, c1, s1⟩ := c_remember hg hC
  obtain ⟨M2, e2, c2, s2⟩ := hF M1 c1.1
  have hs : sameOn (fun k => 139 ≤ k) M M2 := (s1.mono (fun k hk => by omega)).tr (s2.mono (fun k hk => by omega) : sameOn (fun k => 139 ≤ k) M1 M2)
  obtain ⟨Mm, km, qm, em⟩ := hg' M2 hs
  have hM2 := (hM.same hg hs).keep hg km
  obtain ⟨M3, e3, c3, s3⟩ := m_remember hg hM2
  obtain ⟨M4, e4, c4, s4, f4⟩ := hG M3 (hQ _ _ qm s3) c3.1
  refine ⟨r, M2, M4, by rw [hf, e1, b_s1]; exact e2, by rw [em, e3, b_s1]; exact e4, now', img, _, _, _, ls, rw_, R, hg.push.setN hn, ?_, ?_⟩
  · refine IC.same ?_ (s4.mono (fun k hk => by omega))
    refine IC.same ?_ (s3.mono (fun k hk => by omega))
    refine IC.same ?_ (km.1.mono (fun k hk => by omega))
    exact c1.setNow (s2.mono (fun k hk => by omega)) c2
  · exact c3.setNow hg.push (s4.mono (fun k hk => by omega)) f4 c4
