/-! one piece of the state becomes another -/
section
variable {M M' : Mem} {now now' : PV} {img : Option PV} {st ct st' ct' : Nat} {hist hist' : Nat → PV} {ls rw ls' rw' : List Nat} {R : Nat → Int32}
theorem IC.setNow (h : IC M now img st ct hist ls rw R) (hs : sameOn (fun k => k = 0 ∨ (12 ≤ k ∧ k < 139)) M M') (hn : cPar M' 1 now') : IC M' now' img st ct hist ls rw R := by
  obtain ⟨h1, h2, h3, ⟨h4, h5, h6⟩, ⟨h7, h8⟩, ⟨h9, h10⟩, h11⟩ := h
  have e : ∀ k, k = 0 ∨ (12 ≤ k ∧ k < 139) → gi M' k = gi M k := fun k hk => (hs k hk).1
  exact ⟨hn, fun v hv => (h2 v hv).same (hs.mono (fun a ha => by omega)), by rw [e 0 (by omega)]; exact h3, ⟨by rw [e 34 (by omega)]; exact h4, by rw [e 34 (by omega)]; exact h5, fun a ha => (h6 a ha).same (hs.mono (fun b hb => by omega))⟩, ⟨by rw [e 124 (by omega)]; exact h7, fun i a ha => by rw [e 125 (by omega)]; exact h8 i a ha⟩, ⟨by rw [e 0 (by omega)]; exact h9, fun i a ha => by rw [e 137 (by omega)]; exact h10 i a ha⟩, fun i hi => by rw [e 138 (by omega)]; exact h11 i hi⟩
theorem IC.setHist (h : IC M now img st ct hist ls rw R) (hs : sameOn (fun k => k < 34 ∨ (124 ≤ k ∧ k < 139)) M M') (hn : gi M' 34 1 = iz st' ∧ gi M' 34 2 = iz ct' ∧ ∀ a, a < ct' → cPar M' (36 + 11 * ((st' + a) % 8)) (hist' ((st' + a) % 8))) : IC M' now img st' ct' hist' ls rw R := by
  obtain ⟨h1, h2, h3, ⟨h4, h5, h6⟩, ⟨h7, h8⟩, ⟨h9, h10⟩, h11⟩ := h
  have e : ∀ k, k < 34 ∨ (124 ≤ k ∧ k < 139) → gi M' k = gi M k := fun k hk => (hs k hk).1
  exact ⟨h1.same (hs.mono (fun a ha => by omega)), fun v hv => (h2 v hv).same (hs.mono (fun a ha => by omega)), by rw [e 0 (by omega)]; exact h3, hn, ⟨by rw [e 124 (by omega)]; exact h7, fun i a ha => by rw [e 125 (by omega)]; exact h8 i a ha⟩, ⟨by rw [e 0 (by omega)]; exact h9, fun i a ha => by rw [e 137 (by omega)]; exact h10 i a ha⟩, fun i hi => by rw [e 138 (by omega)]; exact h11 i hi⟩
theorem IC.setImg {v : PV} (h : IC M now img st ct hist ls rw R) (hs : sameOn (fun k => (1 ≤ k ∧ k < 23) ∨ (34 ≤ k ∧ k < 139)) M M') (h8' : gi M' 0 8 = gi M 0 8) (h9' : gi M' 0 9 = 1) (hn : cPar M' 23 v) : IC M' now (some v) st ct hist ls rw R := by
  obtain ⟨h1, h2, h3, ⟨h4, h5, h6⟩, ⟨h7, h8⟩, ⟨h9, h10⟩, h11⟩ := h
  have e : ∀ k, (1 ≤ k ∧ k < 23) ∨ (34 ≤ k ∧ k < 139) → gi M' k = gi M k := fun k hk => (hs k hk).1
  exact ⟨h1.same (hs.mono (fun a ha => by omega)), fun v' hv => by cases hv; exact hn, h9', ⟨by rw [e 34 (by omega)]; exact h4, by rw [e 34 (by omega)]; exact h5, fun a ha => (h6 a ha).same (hs.mono (fun b hb => by omega))⟩, ⟨by rw [e 124 (by omega)]; exact h7, fun i a ha => by rw [e 125 (by omega)]; exact h8 i a ha⟩, ⟨h8'.trans h9, fun i a ha => by rw [e 137 (by omega)]; exact h10 i a ha⟩, fun i hi => by rw [e 138 (by omega)]; exact h11 i hi⟩
theorem IC.setLs (h : IC M now img st ct hist ls rw R) (hs : sameOn (fun k => k < 124 ∨ (126 ≤ k ∧ k < 139)) M M') (hn : gi M' 124 1 = iz ls'.length ∧ ∀ (i a : Nat), ls'[i]? = some a → gi M' 125 i = iz a) : IC M' now img st ct hist ls' rw R := by
  obtain ⟨h1, h2, h3, ⟨h4, h5, h6⟩, ⟨h7, h8⟩, ⟨h9, h10⟩, h11⟩ := h
  have e : ∀ k, k < 124 ∨ (126 ≤ k ∧ k < 139) → gi M' k = gi M k := fun k hk => (hs k hk).1
  exact ⟨h1.same (hs.mono (fun a ha => by omega)), fun v hv => (h2 v hv).same (hs.mono (fun a ha => by omega)), by rw [e 0 (by omega)]; exact h3, ⟨by rw [e 34 (by omega)]; exact h4, by rw [e 34 (by omega)]; exact h5, fun a ha => (h6 a ha).same (hs.mono (fun b hb => by omega))⟩, hn, ⟨by rw [e 0 (by omega)]; exact h9, fun i a ha => by rw [e 137 (by omega)]; exact h10 i a ha⟩, fun i hi => by rw [e 138 (by omega)]; exact h11 i hi⟩
theorem IC.setRw (h : IC M now img st ct hist ls rw R) (hs : sameOn (fun k => (1 ≤ k ∧ k < 137) ∨ k = 138) M M') (h9' : gi M' 0 9 = gi M 0 9) (hn : gi M' 0 8 = iz rw'.length ∧ ∀ (i a : Nat), rw'[i]? = some a → gi M' 137 i = iz a) : IC M' now img st ct hist ls rw' R := by
  obtain ⟨h1, h2, h3, ⟨h4, h5, h6⟩, ⟨h7, h8⟩, ⟨h9, h10⟩, h11⟩ := h
  have e : ∀ k, (1 ≤ k ∧ k < 137) ∨ k = 138 → gi M' k = gi M k := fun k hk => (hs k hk).1
  exact ⟨h1.same (hs.mono (fun a ha => by omega)), fun v hv => (h2 v hv).same (hs.mono (fun a ha => by omega)), h9'.trans h3, ⟨by rw [e 34 (by omega)]; exact h4, by rw [e 34 (by omega)]; exact h5, fun a ha => (h6 a ha).same (hs.mono (fun b hb => by omega))⟩, ⟨by rw [e 124 (by omega)]; exact h7, fun i a ha => by rw [e 125 (by omega)]; exact h8 i a ha⟩, hn, fun i hi => by rw [e 138 (by omega)]; exact h11 i hi⟩
/-- the fields of the reference's own object that count -/
def fldM (P : Nat → Prop) (M M' : Mem) : Prop := ∀ j, P j → gi M' 139 j = gi M 139 j
theorem IM.setNow (hg : okG now img st ct hist ls rw) (h : IM M now img st ct hist ls rw R) (hs : sameOn (fun k => k = 140 ∨ k = 156 ∨ k = 163 ∨ k = 168) M M') (hf : fldM (fun j => 21 ≤ j) M M') (hn : mPar (rdNow M') now') : IM M' now' img st ct hist ls rw R := by
  obtain ⟨h1, h2, h3, ⟨h4, h5, h6⟩, ⟨h7, h8⟩, ⟨h9, h10⟩, h11⟩ := h
  obtain ⟨g1, g2, g3, g4, g5, -⟩ := hg
  have e : ∀ k, k = 140 ∨ k = 156 ∨ k = 163 ∨ k = 168 → gi M' k = gi M k := fun k hk => (hs k hk).1
  exact ⟨hn, fun v hv => (h2 v hv).congr (g2 v hv).1 (fun o ho => by unfold rdSeg; rw [e 163 (by omega)]), (hf 42 (by omega)).trans h3, ⟨(hf 45 (by omega)).trans h4, (hf 46 (by omega)).trans h5, fun a ha => (h6 a ha).congr (g5 a ha).1 (fun o ho => by unfold rdSeg; rw [e 163 (by omega)])⟩, ⟨(hf 36 (by omega)).trans h7, fun i a ha => by rw [e 156 (by omega)]; exact h8 i a ha⟩, ⟨(hf 52 (by omega)).trans h9, fun i a ha => by rw [e 168 (by omega)]; exact h10 i a ha⟩, fun i hi => by rw [e 140 (by omega)]; exact h11 i hi⟩
theorem IM.setHist (hg : okG now img st ct hist ls rw) (h : IM M now img st ct hist ls rw R) (hs : sameOn (fun k => (140 ≤ k ∧ k < 149) ∨ k = 156 ∨ k = 168) M M') (hf : fldM (fun j => j < 43 ∨ 47 ≤ j) M M') (hx : ∀ x, x < 292 → gi M' 163 x = gi M 163 x) (hn : gi M' 139 45 = iz st' ∧ gi M' 139 46 = iz ct' ∧ ∀ a, a < ct' → mPar (rdSeg M' (3 + (st' + a) % 8)) (hist' ((st' + a) % 8))) : IM M' now img st' ct' hist' ls rw R := by
  obtain ⟨h1, h2, h3, ⟨h4, h5, h6⟩, ⟨h7, h8⟩, ⟨h9, h10⟩, h11⟩ := h
  obtain ⟨g1, g2, g3, g4, g5, -⟩ := hg
  have e : ∀ k, (140 ≤ k ∧ k < 149) ∨ k = 156 ∨ k = 168 → gi M' k = gi M k := fun k hk => (hs k hk).1
  exact ⟨h1.congr g1.1 (rdNow.congr (hs.mono (fun a ha => by omega)) (fun j _ _ => hf j (by omega))), fun v hv => (h2 v hv).congr (g2 v hv).1 (fun o ho => hx _ (by omega)), (hf 42 (by omega)).trans h3, hn, ⟨(hf 36 (by omega)).trans h7, fun i a ha => by rw [e 156 (by omega)]; exact h8 i a ha⟩, ⟨(hf 52 (by omega)).trans h9, fun i a ha => by rw [e 168 (by omega)]; exact h10 i a ha⟩, fun i hi => by rw [e 140 (by omega)]; exact h11 i hi⟩
theorem IM.setImg {v : PV} (hg : okG now img st ct hist ls rw) (h : IM M now img st ct hist ls rw R) (hs : sameOn (fun k => (140 ≤ k ∧ k < 149) ∨ k = 156 ∨ k = 168) M M') (hf : fldM (fun j => j < 42 ∨ 45 ≤ j) M M') (h42 : gi M' 139 42 = 1) (hx : ∀ x, 885 ≤ x → gi M' 163 x = gi M 163 x) (hn : mPar (rdSeg M' 0) v) : IM M' now (some v) st ct hist ls rw R := by
  obtain ⟨h1, h2, h3, ⟨h4, h5, h6⟩, ⟨h7, h8⟩, ⟨h9, h10⟩, h11⟩ := h
  obtain ⟨g1, g2, g3, g4, g5, -⟩ := hg
  have e : ∀ k, (140 ≤ k ∧ k < 149) ∨ k = 156 ∨ k = 168 → gi M' k = gi M k := fun k hk => (hs k hk).1
  exact ⟨h1.congr g1.1 (rdNow.congr (hs.mono (fun a ha => by omega)) (fun j _ _ => hf j (by omega))), fun v' hv => by cases hv; exact hn, h42, ⟨(hf 45 (by omega)).trans h4, (hf 46 (by omega)).trans h5, fun a ha => (h6 a ha).congr (g5 a ha).1 (fun o ho => hx _ (by omega))⟩, ⟨(hf 36 (by omega)).trans h7, fun i a ha => by rw [e 156 (by omega)]; exact h8 i a ha⟩, ⟨(hf 52 (by omega)).trans h9, fun i a ha => by rw [e 168 (by omega)]; exact h10 i a ha⟩, fun i hi => by rw [e 140 (by omega)]; exact h11 i hi⟩
theorem IM.setLs (hg : okG now img st ct hist ls rw) (h : IM M now img st ct hist ls rw R) (hs : sameOn (fun k => (140 ≤ k ∧ k < 149) ∨ k = 163 ∨ k = 168) M M') (hf : fldM (fun j => j < 36 ∨ 40 ≤ j) M M') (hn : gi M' 139 36 = iz ls'.length ∧ ∀ (i a : Nat), ls'[i]? = some a → gi M' 156 i = iz a) : IM M' now img st ct hist ls' rw R := by
  obtain ⟨h1, h2, h3, ⟨h4, h5, h6⟩, ⟨h7, h8⟩, ⟨h9, h10⟩, h11⟩ := h
  obtain ⟨g1, g2, g3, g4, g5, -⟩ := hg
  have e : ∀ k, (140 ≤ k ∧ k < 149) ∨ k = 163 ∨ k = 168 → gi M' k = gi M k := fun k hk => (hs k hk).1
  exact ⟨h1.congr g1.1 (rdNow.congr (hs.mono (fun a ha => by omega)) (fun j _ _ => hf j (by omega))), fun v hv => (h2 v hv).congr (g2 v hv).1 (fun o ho => by unfold rdSeg; rw [e 163 (by omega)]), (hf 42 (by omega)).trans h3, ⟨(hf 45 (by omega)).trans h4, (hf 46 (by omega)).trans h5, fun a ha => (h6 a ha).congr (g5 a ha).1 (fun o ho => by unfold rdSeg; rw [e 163 (by omega)])⟩, hn, ⟨(hf 52 (by omega)).trans h9, fun i a ha => by rw [e 168 (by omega)]; exact h10 i a ha⟩, fun i hi => by rw [e 140 (by omega)]; exact h11 i hi⟩
theorem IM.setRw (hg : okG now img st ct hist ls rw) (h : IM M now img st ct hist ls rw R) (hs : sameOn (fun k => (140 ≤ k ∧ k < 149) ∨ k = 156 ∨ k = 163) M M') (hf : fldM (fun j => j < 52) M M') (hn : gi M' 139 52 = iz rw'.length ∧ ∀ (i a : Nat), rw'[i]? = some a → gi M' 168 i = iz a) : IM M' now img st ct hist ls rw' R := by
  obtain ⟨h1, h2, h3, ⟨h4, h5, h6⟩, ⟨h7, h8⟩, ⟨h9, h10⟩, h11⟩ := h
  obtain ⟨g1, g2, g3, g4, g5, -⟩ := hg
  have e : ∀ k, (140 ≤ k ∧ k < 149) ∨ k = 156 ∨ k = 163 → gi M' k = gi M k := fun k hk => (hs k hk).1
  exact ⟨h1.congr g1.1 (rdNow.congr (hs.mono (fun a ha => by omega)) (fun j _ _ => hf j (by omega))), fun v hv => (h2 v hv).congr (g2 v hv).1 (fun o ho => by unfold rdSeg; rw [e 163 (by omega)]), (hf 42 (by omega)).trans h3, ⟨(hf 45 (by omega)).trans h4, (hf 46 (by omega)).trans h5, fun a ha => (h6 a ha).congr (g5 a ha).1 (fun o ho => by unfold rdSeg; rw [e 163 (by omega)])⟩, ⟨(hf 36 (by omega)).trans h7, fun i a ha => by rw [e 156 (by omega)]; exact h8 i a ha⟩, hn, fun i hi => by rw [e 140 (by omega)]; exact h11 i hi⟩
end
