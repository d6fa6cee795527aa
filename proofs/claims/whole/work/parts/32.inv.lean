/-! the relation between the two systems -/
def okN (v : PV) : Prop := okV v ∧ v.2.2.2 0 ≤ 60
/-- the class's cells -/
def IC (M : Mem) (now : PV) (img : Option PV) (st ct : Nat) (hist : Nat → PV) (ls rw : List Nat) (R : Nat → Int32) : Prop :=
  cPar M 1 now ∧ (∀ v, img = some v → cPar M 23 v) ∧ gi M 0 9 = iz (img.isSome.toNat : Nat) ∧
  (gi M 34 1 = iz st ∧ gi M 34 2 = iz ct ∧ ∀ a, a < ct → cPar M (36 + 11 * ((st + a) % 8)) (hist ((st + a) % 8))) ∧
  (gi M 124 1 = iz ls.length ∧ ∀ (i a : Nat), ls[i]? = some a → gi M 125 i = iz a) ∧
  (gi M 0 8 = iz rw.length ∧ ∀ (i a : Nat), rw[i]? = some a → gi M 137 i = iz a) ∧ ∀ i, i < 7 → gi M 138 i = R i
/-- the reference's cells -/
def IM (M : Mem) (now : PV) (img : Option PV) (st ct : Nat) (hist : Nat → PV) (ls rw : List Nat) (R : Nat → Int32) : Prop :=
  mPar (rdNow M) now ∧ (∀ v, img = some v → mPar (rdSeg M 0) v) ∧ gi M 139 42 = iz (img.isSome.toNat : Nat) ∧
  (gi M 139 45 = iz st ∧ gi M 139 46 = iz ct ∧ ∀ a, a < ct → mPar (rdSeg M (3 + (st + a) % 8)) (hist ((st + a) % 8))) ∧
  (gi M 139 36 = iz ls.length ∧ ∀ (i a : Nat), ls[i]? = some a → gi M 156 i = iz a) ∧
  (gi M 139 52 = iz rw.length ∧ ∀ (i a : Nat), rw[i]? = some a → gi M 168 i = iz a) ∧ ∀ i, i < 7 → gi M 140 i = R i
def okG (now : PV) (img : Option PV) (st ct : Nat) (hist : Nat → PV) (ls rw : List Nat) : Prop :=
  okN now ∧ (∀ v, img = some v → okN v) ∧ st < 8 ∧ ct ≤ 8 ∧ (∀ a, a < ct → okN (hist ((st + a) % 8))) ∧ ls.length ≤ 96 ∧ (∀ a ∈ ls, a ≤ 255) ∧ rw.length ≤ 16 ∧ ∀ a ∈ rw, a ≤ 99
def Inv (M : Mem) : Prop := ∃ now img st ct hist ls rw R, okG now img st ct hist ls rw ∧ IC M now img st ct hist ls rw R ∧ IM M now img st ct hist ls rw R
/-- what a question may not touch in the class's cells -/
def keepC (M M' : Mem) : Prop := sameOn (fun k => (1 ≤ k ∧ k < 12) ∨ (23 ≤ k ∧ k < 124) ∨ k = 125 ∨ k = 137 ∨ k = 138 ∨ 139 ≤ k) M M' ∧ gi M' 0 8 = gi M 0 8 ∧ gi M' 0 9 = gi M 0 9 ∧ gi M' 124 1 = gi M 124 1
/-- .. and in the reference's -/
def keepM (M M' : Mem) : Prop := sameOn (fun k => k < 139 ∨ (140 ≤ k ∧ k < 149) ∨ k = 156 ∨ k = 168) M M' ∧ (∀ j, (9 ≤ j ∧ j < 21) ∨ j = 36 ∨ j = 42 ∨ j = 45 ∨ j = 46 ∨ j = 52 → gi M' 139 j = gi M 139 j) ∧ ∀ x, x < 292 ∨ 885 ≤ x → gi M' 163 x = gi M 163 x
theorem keepC.rf {M : Mem} : keepC M M := ⟨sameOn.rf, rfl, rfl, rfl⟩
theorem keepM.rf {M : Mem} : keepM M M := ⟨sameOn.rf, fun _ _ => rfl, fun _ _ => rfl⟩
theorem keepC.tr {M M' M'' : Mem} (h : keepC M M') (h' : keepC M' M'') : keepC M M'' := ⟨h.1.tr h'.1, h'.2.1.trans h.2.1, h'.2.2.1.trans h.2.2.1, h'.2.2.2.trans h.2.2.2⟩
theorem keepM.tr {M M' M'' : Mem} (h : keepM M M') (h' : keepM M' M'') : keepM M M'' := ⟨h.1.tr h'.1, fun j hj => (h'.2.1 j hj).trans (h.2.1 j hj), fun x hx => (h'.2.2 x hx).trans (h.2.2 x hx)⟩
theorem rdNow.congr {M M' : Mem} (h : sameOn (fun k => 141 ≤ k ∧ k < 149) M M') (h9 : ∀ j, 9 ≤ j → j < 21 → gi M' 139 j = gi M 139 j) : ∀ o, o < 292 → rdNow M' o = rdNow M o := by
  intro o ho
  unfold rdNow
  rw [(h 141 ⟨by omega, by omega⟩).1, (h 142 ⟨by omega, by omega⟩).1, (h 143 ⟨by omega, by omega⟩).1, (h 144 ⟨by omega, by omega⟩).1, (h 145 ⟨by omega, by omega⟩).1, (h 146 ⟨by omega, by omega⟩).1, (h 147 ⟨by omega, by omega⟩).1, (h 148 ⟨by omega, by omega⟩).1]
  by_cases q : o < 280
  · simp only [q, if_true]
  · rw [h9 (o - 280 + 9) (by omega) (by omega)]
section
variable {M M' : Mem} {now : PV} {img : Option PV} {st ct : Nat} {hist : Nat → PV} {ls rw : List Nat} {R : Nat → Int32}
theorem IC.keep (h : IC M now img st ct hist ls rw R) (hk : keepC M M') : IC M' now img st ct hist ls rw R := by
  obtain ⟨h1, h2, h3, ⟨h4, h5, h6⟩, ⟨h7, h8⟩, ⟨h9, h10⟩, h11⟩ := h
  obtain ⟨k1, k2, k3, k4⟩ := hk
  refine ⟨h1.same (k1.mono (fun a ha => Or.inl ⟨by omega, by omega⟩)), fun v hv => (h2 v hv).same (k1.mono (fun a ha => Or.inr (Or.inl ⟨by omega, by omega⟩))), k3.trans h3, ⟨?_, ?_, fun a ha => (h6 a ha).same (k1.mono (fun b hb => Or.inr (Or.inl ⟨by omega, by omega⟩)))⟩, ⟨k4.trans h7, fun i a ha => ?_⟩, ⟨k2.trans h9, fun i a ha => ?_⟩, fun i hi => ?_⟩
  · rw [(k1 34 (Or.inr (Or.inl ⟨by omega, by omega⟩))).1]; exact h4
  · rw [(k1 34 (Or.inr (Or.inl ⟨by omega, by omega⟩))).1]; exact h5
  · rw [(k1 125 (Or.inr (Or.inr (Or.inl rfl)))).1]; exact h8 i a ha
  · rw [(k1 137 (Or.inr (Or.inr (Or.inr (Or.inl rfl))))).1]; exact h10 i a ha
  · rw [(k1 138 (Or.inr (Or.inr (Or.inr (Or.inr (Or.inl rfl)))))).1]; exact h11 i hi
theorem IM.keep (hg : okG now img st ct hist ls rw) (h : IM M now img st ct hist ls rw R) (hk : keepM M M') : IM M' now img st ct hist ls rw R := by
  obtain ⟨h1, h2, h3, ⟨h4, h5, h6⟩, ⟨h7, h8⟩, ⟨h9, h10⟩, h11⟩ := h
  obtain ⟨k1, k2, k3⟩ := hk
  obtain ⟨g1, g2, g3, g4, g5, -⟩ := hg
  refine ⟨h1.congr g1.1 (rdNow.congr (k1.mono (fun a ha => Or.inr (Or.inl ⟨by omega, by omega⟩))) (fun j q1 q2 => k2 j (Or.inl ⟨q1, q2⟩))), fun v hv => (h2 v hv).congr (g2 v hv).1 (fun o ho => k3 _ (Or.inl (by omega))), (k2 42 (by omega)).trans h3, ⟨(k2 45 (by omega)).trans h4, (k2 46 (by omega)).trans h5, fun a ha => (h6 a ha).congr (g5 a ha).1 (fun o ho => k3 _ (Or.inr (by omega)))⟩, ⟨(k2 36 (by omega)).trans h7, fun i a ha => ?_⟩, ⟨(k2 52 (by omega)).trans h9, fun i a ha => ?_⟩, fun i hi => ?_⟩
  · rw [(k1 156 (Or.inr (Or.inr (Or.inl rfl)))).1]; exact h8 i a ha
  · rw [(k1 168 (Or.inr (Or.inr (Or.inr rfl)))).1]; exact h10 i a ha
  · rw [(k1 140 (Or.inr (Or.inl ⟨by omega, by omega⟩))).1]; exact h11 i hi
theorem IC.same (h : IC M now img st ct hist ls rw R) (hs : sameOn (fun k => k < 139) M M') : IC M' now img st ct hist ls rw R := by
  have e : ∀ k, k < 139 → gi M' k = gi M k := fun k hk => (hs k hk).1
  obtain ⟨h1, h2, h3, ⟨h4, h5, h6⟩, ⟨h7, h8⟩, ⟨h9, h10⟩, h11⟩ := h
  refine ⟨h1.same (hs.mono (fun a ha => by omega)), fun v hv => (h2 v hv).same (hs.mono (fun a ha => by omega)), by rw [e 0 (by omega)]; exact h3, ⟨by rw [e 34 (by omega)]; exact h4, by rw [e 34 (by omega)]; exact h5, fun a ha => (h6 a ha).same (hs.mono (fun b hb => by omega))⟩, ⟨by rw [e 124 (by omega)]; exact h7, fun i a ha => by rw [e 125 (by omega)]; exact h8 i a ha⟩, ⟨by rw [e 0 (by omega)]; exact h9, fun i a ha => by rw [e 137 (by omega)]; exact h10 i a ha⟩, fun i hi => by rw [e 138 (by omega)]; exact h11 i hi⟩
theorem IM.same (hg : okG now img st ct hist ls rw) (h : IM M now img st ct hist ls rw R) (hs : sameOn (fun k => 139 ≤ k) M M') : IM M' now img st ct hist ls rw R := by
  have e : ∀ k, 139 ≤ k → gi M' k = gi M k := fun k hk => (hs k hk).1
  obtain ⟨h1, h2, h3, ⟨h4, h5, h6⟩, ⟨h7, h8⟩, ⟨h9, h10⟩, h11⟩ := h
  obtain ⟨g1, g2, g3, g4, g5, -⟩ := hg
  refine ⟨h1.congr g1.1 (rdNow.congr (hs.mono (fun a ha => by omega)) (fun j _ _ => by rw [e 139 (by omega)])), fun v hv => (h2 v hv).congr (g2 v hv).1 (fun o ho => by unfold rdSeg; rw [e 163 (by omega)]), by rw [e 139 (by omega)]; exact h3, ⟨by rw [e 139 (by omega)]; exact h4, by rw [e 139 (by omega)]; exact h5, fun a ha => (h6 a ha).congr (g5 a ha).1 (fun o ho => by unfold rdSeg; rw [e 163 (by omega)])⟩, ⟨by rw [e 139 (by omega)]; exact h7, fun i a ha => by rw [e 156 (by omega)]; exact h8 i a ha⟩, ⟨by rw [e 139 (by omega)]; exact h9, fun i a ha => by rw [e 168 (by omega)]; exact h10 i a ha⟩, fun i hi => by rw [e 140 (by omega)]; exact h11 i hi⟩
end
/-- a question: both answer the same, nothing that counts is touched -/
theorem inv_ask {M M1 M2 : Mem} (h : Inv M) (hc : keepC M M1) (hm : keepM M1 M2) : Inv M2 := by
  obtain ⟨now, img, st, ct, hist, ls, rw, R, hg, hC, hM⟩ := h
  exact ⟨now, img, st, ct, hist, ls, rw, R, hg, (hC.keep hc).same (hm.1.mono (fun a ha => Or.inl ha)), (hM.same hg (hc.1.mono (fun a ha => by omega))).keep hg hm⟩
/-! the smallest methods -/
theorem not_neg (i : Nat) (hi : i < 2000000) : ¬ iz (i : Int) < 0 := by rw [iz_lit, iz_lt (by omega) (by omega) (by omega) (by omega)]; omega
theorem not_le_ {n i : Nat} (hn : n < 2000000) (hi : i < n) : ¬ Int32.ofNat n ≤ iz (i : Int) := by rw [iz_nat, iz_le (by omega) (by omega) (by omega) (by omega)]; omega
theorem c_at {k n i : Nat} {M : Mem} (hn : alen k = n) (hb : n < 5000) (hi : i < n) : f_X8_at k (iz (i : Int)) M = some (gi M k i) := by
  unfold f_X8_at
  rw [hn, if_neg (not_neg i (by omega)), if_neg (not_le_ (by omega) hi), g_t (inB_iz (by omega) (by omega) (by omega)), iz_cl (by omega) (by omega)]
  rfl
theorem c_put {k n i : Nat} {M : Mem} {v : Int32} (hn : alen k = n) (hb : n < 5000) (hi : i < n) : f_X8_put k (iz (i : Int)) v M = some (si M k i v) := by
  unfold f_X8_put nmq
  rw [hn, if_neg (not_neg i (by omega)), if_neg (not_le_ (by omega) hi), g_t (inB_iz (by omega) (by omega) (by omega)), iz_cl (by omega) (by omega)]
  rfl
theorem c_refuse {v : Nat} {M : Mem} (hv : v < 7) : f_X8_refuse (iz (-(v : Int))) M = some (iz (-(v : Int)), si M 138 v (gi M 138 v + 1)) := by
  unfold f_X8_refuse
  rw [iz_neg, Int.neg_neg, c_at al138 (by omega) hv, b_s1, c_put al138 (by omega) hv, b_s1]
theorem m_no {v : Nat} {M : Mem} (hv : v < 7) : f_X9_no (iz (-(v : Int))) M = some (iz (-(v : Int)), si M 140 v (gi M 140 v + 1)) := by
  simp only [f_X9_no, nmq, iz_neg, Int.neg_neg]
  rw [g_t (inB_iz (by omega) (by omega) (by omega)), g_t (inB_iz (by omega) (by omega) (by omega)), iz_cl (by omega) (by omega)]
  rfl
