/-! calls that are refused; the simplest ones -/
theorem inv_no {M : Mem} (h : Inv M) {v : Nat} (hv : v < 7) : ∃ M1 M2, f_X8_refuse (iz (-(v : Int))) M = some (iz (-(v : Int)), M1) ∧ f_X9_no (iz (-(v : Int))) M1 = some (iz (-(v : Int)), M2) ∧ Inv M2 := by
  refine ⟨_, _, c_refuse hv, m_no hv, ?_⟩
  obtain ⟨now, img, st, ct, hist, ls, rw_, R, hg, hC, hM⟩ := h
  refine ⟨now, img, st, ct, hist, ls, rw_, fun i => if i = v then R i + 1 else R i, hg, ?_, ?_⟩
  · obtain ⟨h1, h2, h3, ⟨h4, h5, h6⟩, ⟨h7, h8⟩, ⟨h9, h10⟩, h11⟩ := hC
    have e : ∀ {k : Nat}, k ≠ 138 → k ≠ 140 → ∀ {w x : Int32}, gi (si (si M 138 v w) 140 v x) k = gi M k := fun q1 q2 => by intro w x; exact (ne_row q2).trans (ne_row q1)
    have hs : ∀ (w x : Int32), sameOn (fun k => k < 138) M (si (si M 138 v w) 140 v x) := fun w x => (sameOn.si (by omega)).tr (sameOn.si (by omega))
    refine ⟨h1.same ((hs _ _).mono (fun a ha => by omega)), fun v' hv' => (h2 v' hv').same ((hs _ _).mono (fun a ha => by omega)), by rw [e (by decide) (by decide)]; exact h3, ⟨by rw [e (by decide) (by decide)]; exact h4, by rw [e (by decide) (by decide)]; exact h5, fun a ha => (h6 a ha).same ((hs _ _).mono (fun b hb => by omega))⟩, ⟨by rw [e (by decide) (by decide)]; exact h7, fun i a ha => by rw [e (by decide) (by decide)]; exact h8 i a ha⟩, ⟨by rw [e (by decide) (by decide)]; exact h9, fun i a ha => by rw [e (by decide) (by decide)]; exact h10 i a ha⟩, fun i hi => ?_⟩
    rw [gi_si, if_neg (fun q => absurd q.1 (by decide)), gi_si]
    show _ = (if i = v then R i + 1 else R i)
    by_cases hiv : i = v
    · rw [if_pos ⟨rfl, hiv⟩, if_pos hiv, h11 v hv, hiv]
    · rw [if_neg (fun q => hiv q.2), if_neg hiv, h11 i hi]
  · have h1 : IM (si M 138 v (gi M 138 v + 1)) now img st ct hist ls rw_ R := hM.same hg (sameOn.si (by omega))
    generalize si M 138 v (gi M 138 v + 1) = M1 at h1 ⊢
    obtain ⟨h1, h2, h3, ⟨h4, h5, h6⟩, ⟨h7, h8⟩, ⟨h9, h10⟩, h11⟩ := h1
    obtain ⟨g1, g2, g3, g4, g5, -⟩ := hg
    have e : ∀ {k : Nat}, k ≠ 140 → ∀ {w : Int32}, gi (si M1 140 v w) k = gi M1 k := fun q1 => by intro w; exact ne_row q1
    refine ⟨h1.congr g1.1 (rdNow.congr (sameOn.si (by omega)) (fun j _ _ => by rw [e (by decide)])), fun v' hv' => (h2 v' hv').congr (g2 v' hv').1 (fun o ho => by unfold rdSeg; rw [e (by decide)]), by rw [e (by decide)]; exact h3, ⟨by rw [e (by decide)]; exact h4, by rw [e (by decide)]; exact h5, fun a ha => (h6 a ha).congr (g5 a ha).1 (fun o ho => by unfold rdSeg; rw [e (by decide)])⟩, ⟨by rw [e (by decide)]; exact h7, fun i a ha => by rw [e (by decide)]; exact h8 i a ha⟩, ⟨by rw [e (by decide)]; exact h9, fun i a ha => by rw [e (by decide)]; exact h10 i a ha⟩, fun i hi => ?_⟩
    rw [gi_si]
    show _ = (if i = v then R i + 1 else R i)
    by_cases hiv : i = v
    · rw [if_pos ⟨rfl, hiv⟩, if_pos hiv, h11 v hv, hiv]
    · rw [if_neg (fun q => hiv q.2), if_neg hiv, h11 i hi]
/-- what a call gives: both answer r, and the relation stands -/
def both (M : Mem) (f g : Mem → Option (Int32 × Mem)) : Prop := ∃ r M1 M2, f M = some (r, M1) ∧ g M1 = some (r, M2) ∧ Inv M2
theorem both_no {M : Mem} (h : Inv M) {v : Nat} (hv : v < 7) {f g : Mem → Option (Int32 × Mem)} (hf : f M = f_X8_refuse (iz (-(v : Int))) M) (hg : ∀ M', g M' = f_X9_no (iz (-(v : Int))) M') : both M f g := by
  obtain ⟨M1, M2, h1, h2, h3⟩ := inv_no h hv
  exact ⟨_, M1, M2, hf.trans h1, (hg M1).trans h2, h3⟩
theorem b2_some {α β γ : Type} {o : Option (α × β)} {f : α → β → Option γ} {a : α} {b : β} (h : o = some (a, b)) : bq2 o f = f a b := by rw [h]; rfl
theorem b1_some {α γ : Type} {o : Option α} {f : α → Option γ} {a : α} (h : o = some a) : bq1 o f = f a := by rw [h]; rfl
theorem b2_id {α β : Type} (o : Option (α × β)) : bq2 o (fun a b => some (a, b)) = o := by cases o <;> rfl
theorem b1_id {α : Type} (o : Option α) : bq1 o (fun a => some a) = o := by cases o <;> rfl
theorem c_outside {z lo hi : Int} (h1 : -2147483648 ≤ z) (h2 : z < 2147483648) (h3 : 0 ≤ lo) (h4 : lo < 1000) (h5 : 0 ≤ hi) (h6 : hi < 1000) : f_X8_outside (iz z) (iz lo) (iz hi) = some (iz (if z < lo then -4 else if hi < z then -6 else 0)) := by
  unfold f_X8_outside
  rw [show (-6 : Int32) = iz (-6) from rfl, show (-4 : Int32) = iz (-4) from rfl, show (0 : Int32) = iz 0 from rfl]
  by_cases q1 : z < lo
  · rw [if_neg (by rw [iz_le (by omega) (by omega) (by omega) (by omega)]; omega), if_pos q1]
  · rw [if_pos (by rw [iz_le (by omega) (by omega) (by omega) (by omega)]; omega), if_neg q1]
    by_cases q2 : hi < z
    · rw [if_neg (by rw [iz_le (by omega) (by omega) (by omega) (by omega)]; omega), if_pos q2]
    · rw [if_pos (by rw [iz_le (by omega) (by omega) (by omega) (by omega)]; omega), if_neg q2]
theorem m_bound {z lo hi : Int} (h1 : -2147483648 ≤ z) (h2 : z < 2147483648) (h3 : 0 ≤ lo) (h4 : lo < 1000) (h5 : 0 ≤ hi) (h6 : hi < 1000) : f_X9_bound (iz z) (iz lo) (iz hi) = some (iz (if z < lo then -4 else if hi < z then -6 else 0)) := c_outside h1 h2 h3 h4 h5 h6
theorem m_isIn {z lo hi : Int} (h1 : -2147483648 ≤ z) (h2 : z < 2147483648) (h3 : -1000 ≤ lo) (h4 : lo < 1000) (h5 : -1000 ≤ hi) (h6 : hi < 1000) : f_X9_isIn (iz z) (iz lo) (iz hi) = some (if lo ≤ z ∧ z ≤ hi then 1 else 0) := by
  unfold f_X9_isIn
  by_cases q1 : z < lo
  · rw [if_pos (by rw [iz_lt (by omega) (by omega) (by omega) (by omega)]; omega), if_neg (by omega)]
  · rw [if_neg (by rw [iz_lt (by omega) (by omega) (by omega) (by omega)]; omega)]
    by_cases q2 : hi < z
    · rw [if_pos (by rw [iz_lt (by omega) (by omega) (by omega) (by omega)]; omega), if_neg (by omega)]
    · rw [if_neg (by rw [iz_lt (by omega) (by omega) (by omega) (by omega)]; omega), if_pos (by omega)]
theorem c_isOther {z n : Int} (h1 : -2147483648 ≤ z) (h2 : z < 2147483648) (h3 : 0 ≤ n) (h4 : n < 1000) : f_X8_isOther (iz z) (iz n) = some (if 0 ≤ z ∧ z < n then 0 else 1) := by
  unfold f_X8_isOther
  by_cases q1 : z < 0
  · rw [if_pos (by rw [iz_lit, iz_lt (by omega) (by omega) (by omega) (by omega)]; omega), if_neg (by omega)]
  · rw [if_neg (by rw [iz_lit, iz_lt (by omega) (by omega) (by omega) (by omega)]; omega)]
    by_cases q2 : z < n
    · rw [if_pos (by rw [iz_lt (by omega) (by omega) (by omega) (by omega)]; omega), if_pos (by omega)]
    · rw [if_neg (by rw [iz_lt (by omega) (by omega) (by omega) (by omega)]; omega), if_neg (by omega)]
theorem c_isLetter {z : Int} (h1 : -2147483648 ≤ z) (h2 : z < 2147483648) : f_X8_isLetter (iz z) = some (if 0 ≤ z ∧ z ≤ 7 then 1 else 0) := by
  unfold f_X8_isLetter
  by_cases q1 : z < 0
  · rw [if_pos (by rw [iz_lit, iz_lt (by omega) (by omega) (by omega) (by omega)]; omega), if_neg (by omega)]
  · rw [if_neg (by rw [iz_lit, iz_lt (by omega) (by omega) (by omega) (by omega)]; omega), show (8 : Int32) = iz 8 from rfl]
    by_cases q2 : 8 ≤ z
    · rw [if_pos (by rw [iz_le (by omega) (by omega) (by omega) (by omega)]; omega), if_neg (by omega)]
    · rw [if_neg (by rw [iz_le (by omega) (by omega) (by omega) (by omega)]; omega), if_pos (by omega)]
