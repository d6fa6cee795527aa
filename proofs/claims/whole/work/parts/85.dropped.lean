/-! words that are not there: kept in mind, dropped, forgotten -/
/-- the reference's cells with another inside of the paragraph's rows, but the same to read -/
def keepR (M M' : Mem) : Prop := (∀ o, o < 292 → rdNow M' o = rdNow M o) ∧ sameOn (fun k => k < 139 ∨ k = 140 ∨ k = 156 ∨ k = 168) M M' ∧ (∀ j, j = 36 ∨ j = 42 ∨ j = 45 ∨ j = 46 ∨ j = 52 → gi M' 139 j = gi M 139 j) ∧ ∀ x, x < 292 ∨ 885 ≤ x → gi M' 163 x = gi M 163 x
theorem keepR.rf {M : Mem} : keepR M M := ⟨fun _ _ => rfl, sameOn.rf, fun _ _ => rfl, fun _ _ => rfl⟩
theorem keepR.tr {M M' M'' : Mem} (h : keepR M M') (h' : keepR M' M'') : keepR M M'' := ⟨fun o ho => (h'.1 o ho).trans (h.1 o ho), h.2.1.tr h'.2.1, fun j hj => (h'.2.2.1 j hj).trans (h.2.2.1 j hj), fun x hx => (h'.2.2.2 x hx).trans (h.2.2.2 x hx)⟩
theorem keepM.toR {M M' : Mem} (h : keepM M M') : keepR M M' := ⟨rdNow.congr (h.1.mono (fun a ha => by omega)) (fun j q1 q2 => h.2.1 j (Or.inl ⟨q1, q2⟩)), h.1.mono (fun a ha => by omega), fun j hj => h.2.1 j (by omega), h.2.2⟩
theorem keepR.par {M M' : Mem} {v : PV} (h : keepR M M') (hv : okV v) (hm : mPar (rdNow M) v) : mPar (rdNow M') v := hm.congr hv h.1
theorem IM.keepR {M M' : Mem} {now : PV} {img : Option PV} {st ct : Nat} {hist : Nat → PV} {ls rw_ : List Nat} {R : Nat → Int32} (hg : okG now img st ct hist ls rw_) (h : IM M now img st ct hist ls rw_ R) (hk : keepR M M') : IM M' now img st ct hist ls rw_ R := by
  obtain ⟨h1, h2, h3, ⟨h4, h5, h6⟩, ⟨h7, h8⟩, ⟨h9, h10⟩, h11⟩ := h
  obtain ⟨k0, k1, k2, k3⟩ := hk
  obtain ⟨g1, g2, g3, g4, g5, -⟩ := hg
  refine ⟨h1.congr g1.1 k0, fun v hv => (h2 v hv).congr (g2 v hv).1 (fun o ho => k3 _ (Or.inl (by omega))), (k2 42 (by omega)).trans h3, ⟨(k2 45 (by omega)).trans h4, (k2 46 (by omega)).trans h5, fun a ha => (h6 a ha).congr (g5 a ha).1 (fun o ho => k3 _ (Or.inr (by omega)))⟩, ⟨(k2 36 (by omega)).trans h7, fun i a ha => ?_⟩, ⟨(k2 52 (by omega)).trans h9, fun i a ha => ?_⟩, fun i hi => ?_⟩
  · rw [(k1 156 (by omega)).1]; exact h8 i a ha
  · rw [(k1 168 (by omega)).1]; exact h10 i a ha
  · rw [(k1 140 (by omega)).1]; exact h11 i hi
theorem inv_askR {M M1 M2 : Mem} (h : Inv M) (hc : keepC M M1) (hm : keepR M1 M2) : Inv M2 := by
  obtain ⟨now, img, st, ct, hist, ls, rw_, R, hg, hC, hM⟩ := h
  exact ⟨now, img, st, ct, hist, ls, rw_, R, hg, (hC.keep hc).same (hm.2.1.mono (fun a ha => by omega)), (hM.same hg hc.hi).keepR hg hm⟩
theorem both_askR {M : Mem} (h : Inv M) {f g : Mem → Option (Int32 × Mem)} {r : Int32} (hf : ∃ Mc, keepC M Mc ∧ f M = some (r, Mc)) (hg : ∀ M', sameOn (fun k => 139 ≤ k) M M' → ∃ Mm, keepR M' Mm ∧ g M' = some (r, Mm)) : both M f g := by
  obtain ⟨Mc, kc, ef⟩ := hf
  obtain ⟨Mm, km, eg⟩ := hg _ kc.hi
  exact ⟨r, Mc, Mm, ef, eg, inv_askR h kc km⟩
/-- .. of longs -/
def bothL (M : Mem) (f g : Mem → Option (Int64 × Mem)) : Prop := ∃ r M1 M2, f M = some (r, M1) ∧ g M1 = some (r, M2) ∧ Inv M2
theorem bothL_askR {M : Mem} (h : Inv M) {f g : Mem → Option (Int64 × Mem)} {r : Int64} (hf : ∃ Mc, keepC M Mc ∧ f M = some (r, Mc)) (hg : ∀ M', sameOn (fun k => 139 ≤ k) M M' → ∃ Mm, keepR M' Mm ∧ g M' = some (r, Mm)) : bothL M f g := by
  obtain ⟨Mc, kc, ef⟩ := hf
  obtain ⟨Mm, km, eg⟩ := hg _ kc.hi
  exact ⟨r, Mc, Mm, ef, eg, inv_askR h kc km⟩
theorem m_lowest {v : Nat} {M : Mem} (hv : v < 7) : f_X9_lowestOf (iz (-(v : Int))) M = some ((4000000000000000000 : Int64) - (iz (-(v : Int))).toInt64, si M 140 v (gi M 140 v + 1)) := by
  unfold f_X9_lowestOf
  rw [nmq_q, iz_neg, Int.neg_neg, g_t (inB_iz (by omega) (by omega) (by omega)), g_t (inB_iz (by omega) (by omega) (by omega)), nmq_q, iz_cl (by omega) (by omega)]
  rfl
theorem bothL_no {M : Mem} (h : Inv M) {v : Nat} (hv : v < 7) {f g : Mem → Option (Int64 × Mem)} (hf : f M = f_X8_refuseLong (iz (-(v : Int))) M) (hg : ∀ M', g M' = f_X9_lowestOf (iz (-(v : Int))) M') : bothL M f g := by
  obtain ⟨now, img, st, ct, hist, ls, rw_, R, hG, hC, hM⟩ := h
  have s1 : sameOn (fun k => 139 ≤ k) M (si M 138 v (gi M 138 v + 1)) := sameOn.si (by omega)
  refine ⟨_, si M 138 v (gi M 138 v + 1), _, ?_, (hg _).trans (m_lowest hv), now, img, st, ct, hist, ls, rw_, _, hG, (hC.no hv).same (sameOn.si (by omega)), (hM.same hG s1).no hG hv⟩
  rw [hf]
  unfold f_X8_refuseLong
  rw [c_refuse hv, b_s2]
theorem m_minds {M : Mem} : ∃ M1, f_X9_minds M = some M1 ∧ (∀ o, o < 292 → rdNow M1 o = rdNow M o) ∧ (∀ o, o < 292 → gi M1 163 (590 + o) = rdNow M o) ∧ (∀ x, x < 590 ∨ 882 ≤ x → gi M1 163 x = gi M 163 x) ∧ (∀ j, j < 43 ∨ 45 ≤ j → gi M1 139 j = gi M 139 j) ∧ sameOn (fun k => k ≠ 139 ∧ k ≠ 163) M M1 := by
  obtain ⟨M1, e, s1, s2, s3, s4, s5⟩ := m_keep (M := M) (w := 2) (by omega)
  refine ⟨M1, ?_, rdNow.congr (s5.mono (fun a ha => by omega)) (fun j q1 q2 => s3 j (by omega)), fun o ho => ?_, fun x hx => ?_, s3, s5⟩
  · unfold f_X9_minds
    have e' : f_X9_passesAll (2 : Int32) (1 : Int32) M = some M1 := e
    rw [e', b_s1]
  · rw [s1, if_pos (by omega), show 590 + o - 295 * 2 = o by omega]
  · rw [s1, if_neg (by omega)]
theorem m_forgets {M0 M : Mem} (h : ∀ o, o < 292 → gi M 163 (590 + o) = rdNow M0 o) : ∃ M', f_X9_forgets M = some M' ∧ (∀ o, o < 292 → rdNow M' o = rdNow M0 o) ∧ sameOn (fun k => k < 139 ∨ k = 140 ∨ 149 ≤ k) M M' ∧ ∀ j, j < 9 ∨ (21 ≤ j ∧ j < 43) ∨ 45 ≤ j → gi M' 139 j = gi M 139 j := by
  obtain ⟨M', e, s1, s2, s3, s4, s5⟩ := m_fetch (M := M) (w := 2) (by omega)
  refine ⟨M', ?_, fun o ho => ?_, s5, s3⟩
  · unfold f_X9_forgets
    have e' : f_X9_passesAll (2 : Int32) (0 : Int32) M = some M' := e
    rw [e', b_s1]
  · rw [s1 o ho, if_pos ho]; exact h o ho
/-- what dropping touches -/
def kD (M M' : Mem) : Prop := sameOn (fun b => b ≠ 139 ∧ b ≠ 142 ∧ b ≠ 143 ∧ b ≠ 144) M M' ∧ ∀ j, j ≠ 9 → gi M' 139 j = gi M 139 j
theorem kD.rf {M : Mem} : kD M M := ⟨sameOn.rf, fun _ _ => rfl⟩
theorem kD.tr {M M' M'' : Mem} (h : kD M M') (h' : kD M' M'') : kD M M'' := ⟨h.1.tr h'.1, fun j hj => (h'.2 j hj).trans (h.2 j hj)⟩
/-- in mind, some words dropped, lines found, forgotten -/
theorem m_dropped {v : PV} (hv : okV v) {M M1 M3 : Mem} (hm1 : (∀ o, o < 292 → gi M1 163 (590 + o) = rdNow M o) ∧ (∀ x, x < 590 ∨ 882 ≤ x → gi M1 163 x = gi M 163 x) ∧ (∀ j, j < 43 ∨ 45 ≤ j → gi M1 139 j = gi M 139 j) ∧ sameOn (fun k => k ≠ 139 ∧ k ≠ 163) M M1) (hD : kD M1 M3) {ws : List Word} (hv' : okV (ws, v.2)) (h3 : mPar (rdNow M3) (ws, v.2)) :
    ∃ M6 M8, f_X9_findLines M3 = some (iz (cntV (frs v 0 ws) v.2.2.2), M6) ∧ f_X9_forgets M6 = some M8 ∧ keepR M M8 ∧ mSol M8 (frs v 0 ws) v.2.2.2 ∧ mFr M8 (frs v 0 ws) := by
  obtain ⟨a1, a2, a3, a4⟩ := hm1
  obtain ⟨M6, f1, f2, f3, f4⟩ := m_find hv' h3
  have eF : frs (ws, v.2) 0 ws = frs v 0 ws := frs_congr (v := v) (v' := (ws, v.2)) rfl rfl rfl rfl ws 0
  have f1 : f_X9_findLines M3 = some (iz (cntV (frs (ws, v.2) 0 ws) v.2.2.2), M6) := f1
  have f2 : mSol M6 (frs (ws, v.2) 0 ws) v.2.2.2 := f2
  have f3 : mFr M6 (frs (ws, v.2) 0 ws) := f3
  rw [eF] at f1 f2 f3
  have h163 : gi M6 163 = gi M1 163 := by rw [(f4.1 163 (by omega)).1, (hD.1 163 (by omega)).1]
  obtain ⟨M8, g1, g2, g3, g4⟩ := m_forgets (M0 := M) (M := M6) (fun o ho => by rw [h163]; exact a1 o ho)
  refine ⟨M6, M8, f1, g1, ⟨g2, ?_, fun j hj => ?_, fun x hx => ?_⟩, ?_, f3.same (g3.mono (fun a ha => by omega)) (g4 25 (by omega))⟩
  · exact (((a4.mono (fun a ha => by omega)).tr (hD.1.mono (fun a ha => by omega))).tr (f4.1.mono (fun a ha => by omega))).tr (g3.mono (fun a ha => by omega))
  · rw [g4 j (by omega), f4.2 j (by omega) (by omega), hD.2 j (by omega), a3 j (by omega)]
  · rw [(g3 163 (by omega)).1, h163]; exact a2 x (by omega)
  · refine ⟨by rw [g4 29 (by omega)]; exact f2.1, fun h => ?_⟩
    obtain ⟨b1, b2, b3⟩ := f2.2 h
    exact ⟨by rw [(g3 153 (by omega)).2.2]; exact b1, by rw [(g3 155 (by omega)).1]; exact b2, fun t a ht => by rw [(g3 155 (by omega)).1]; exact b3 t a ht⟩
theorem okV.words {v : PV} (hv : okV v) {ws : List Word} (h1 : ∀ q ∈ ws, q ∈ v.1) (h2 : ws.length ≤ v.1.length) : okV (ws, v.2) := ⟨Nat.le_trans h2 hv.1, fun q hq => hv.2.1 q (h1 q hq), hv.2.2⟩
theorem m_without {v : PV} (hv : okV v) {M : Mem} (hm : mPar (rdNow M) v) {w : Nat} (hw : w < v.1.length) : ∃ M8, f_X9_linesWithout (iz (w : Int)) M = some (iz (cntV (frs v 0 (v.1.eraseIdx w)) v.2.2.2), M8) ∧ keepR M M8 ∧ mSol M8 (frs v 0 (v.1.eraseIdx w)) v.2.2.2 ∧ mFr M8 (frs v 0 (v.1.eraseIdx w)) := by
  obtain ⟨M1, e1, r1, a⟩ := m_minds (M := M)
  obtain ⟨M3, e3, -, h3, d1, d2⟩ := m_wdrop hv (hm.congr hv r1) hw
  have hv' : okV (v.1.eraseIdx w, v.2) := hv.words (fun q hq => List.mem_of_mem_eraseIdx hq) (by rw [List.length_eraseIdx_of_lt hw]; omega)
  obtain ⟨M6, M8, f1, f2, f3, f4, f5⟩ := m_dropped hv a ⟨d2, d1⟩ hv' h3
  refine ⟨M8, ?_, f3, f4, f5⟩
  unfold f_X9_linesWithout
  rw [e1, b_s1, e3, b_s1, f1, b_s2, f2, b_s1]
/-! masks -/
def leftP (P : Nat → Bool) : Nat → List Word → List Word
  | _, [] => []
  | i, q :: l => if P i = true then leftP P (i + 1) l else q :: leftP P (i + 1) l
theorem leftW_P {g : Nat} : ∀ (l : List Word) (i : Nat), leftW g i l = leftP (fun k => decide (g / 2 ^ k % 2 = 1)) i l
  | [], _ => rfl
  | q :: l, i => by
    unfold leftW leftP
    rw [leftW_P l (i + 1)]
    by_cases h : g / 2 ^ i % 2 = 1
    · rw [if_pos h, if_pos (decide_eq_true h)]
    · rw [if_neg h, if_neg (fun e => h (of_decide_eq_true e))]
theorem leftP_congr {P Q : Nat → Bool} : ∀ (l : List Word) (i : Nat), (∀ k, i ≤ k → k < i + l.length → P k = Q k) → leftP P i l = leftP Q i l
  | [], _, _ => rfl
  | q :: l, i, h => by
    rw [List.length_cons] at h
    unfold leftP
    rw [h i (Nat.le_refl _) (by omega), leftP_congr l (i + 1) (fun k h1 h2 => h k (by omega) (by omega))]
theorem leftP_none {P : Nat → Bool} : ∀ (l : List Word) (i : Nat), (∀ k, i ≤ k → P k = false) → leftP P i l = l
  | [], _, _ => rfl
  | q :: l, i, h => by
    unfold leftP
    rw [h i (Nat.le_refl _), if_neg (by decide), leftP_none l (i + 1) (fun k hk => h k (by omega))]
theorem leftP_erase {P : Nat → Bool} {n : Nat} (hP : ∀ k, n ≤ k → P k = false) : ∀ (l : List Word) (i : Nat), i ≤ n → leftP P i (l.eraseIdx (n - i)) = leftP (fun k => P k || decide (k = n)) i l
  | [], _, _ => by simp [leftP]
  | q :: l, i, hi => by
    by_cases h : i = n
    · subst h
      rw [Nat.sub_self, List.eraseIdx_cons_zero, leftP_none l i hP]
      unfold leftP
      rw [if_pos (by simp), leftP_none l (i + 1) (fun k hk => by rw [hP k (by omega), decide_eq_false (by omega)]; rfl)]
    · obtain ⟨d, hd⟩ : ∃ d, n - i = d + 1 := ⟨n - i - 1, by omega⟩
      have ih := leftP_erase hP l (i + 1) (by omega)
      rw [show n - (i + 1) = d by omega] at ih
      rw [hd, List.eraseIdx_cons_succ]
      unfold leftP
      rw [ih, decide_eq_false h, Bool.or_false]
theorem pow_bit {w k : Nat} : 2 ^ w / 2 ^ k % 2 = 1 ↔ k = w := by
  rcases Nat.lt_trichotomy k w with h | h | h
  · obtain ⟨d, rfl⟩ : ∃ d, w = k + (d + 1) := ⟨w - k - 1, by omega⟩
    rw [Nat.pow_add, Nat.mul_div_cancel_left _ (Nat.two_pow_pos k), Nat.pow_succ, Nat.mul_mod_left]
    exact ⟨fun e => by omega, fun e => by omega⟩
  · subst h
    rw [Nat.div_self (Nat.two_pow_pos k)]
    exact ⟨fun _ => rfl, fun _ => rfl⟩
  · rw [Nat.div_eq_of_lt (Nat.pow_lt_pow_right (by omega) h)]
    exact ⟨fun e => by omega, fun e => by omega⟩
theorem leftW_one {w : Nat} (l : List Word) : leftW (2 ^ w) 0 l = l.eraseIdx w := by
  have h := leftP_erase (P := fun _ => false) (n := w) (fun _ _ => rfl) l 0 (Nat.zero_le _)
  rw [leftP_none _ _ (fun _ _ => rfl), Nat.sub_zero] at h
  rw [h, leftW_P]
  refine leftP_congr l 0 (fun k _ _ => ?_)
  rw [Bool.false_or]
  by_cases q : k = w
  · rw [decide_eq_true q, decide_eq_true (pow_bit.mpr q)]
  · rw [decide_eq_false q, decide_eq_false (fun e => q (pow_bit.mp e))]
