/-! patterns changed -/
theorem mPar.pats {rd rd' : Nat → Int32} {v : PV} {ps : List Pat} (hv : okV v) (h : mPar rd v) (h0 : rd' 281 = iz ps.length) (hw : ∀ (w : Nat) (q : Pat), ps[w]? = some q → rd' (232 + w) = iz q.1.length ∧ (∀ (k a : Nat), q.1[k]? = some a → rd' (240 + (3 * w + k)) = iz a) ∧ rd' (264 + w) = iz q.2.1 ∧ rd' (272 + w) = iz q.2.2)
    (hs : ∀ o, o < 232 ∨ o = 280 ∨ (282 ≤ o ∧ o < 292) → rd' o = rd o) : mPar rd' (v.1, ps, v.2.2) := by
  obtain ⟨h1, h2, h3, h4, h5, h6⟩ := h
  obtain ⟨v1, v2, v3, v4, v5, v6⟩ := hv
  refine ⟨by rw [hs _ (by omega)]; exact h1, fun w q hq => ?_, h0, hw, fun i hi => by rw [hs _ (by omega)]; exact h5 i hi, fun i hi => by rw [hs _ (by omega)]; exact h6 i hi⟩
  have hq : v.1[w]? = some q := hq
  have hw : w < 16 := Nat.lt_of_lt_of_le (List.getElem?_eq_some_iff.mp hq).1 v1
  obtain ⟨a1, a2, a3⟩ := h2 w q hq
  refine ⟨by rw [hs _ (by omega)]; exact a1, fun k a hk => ?_, by rw [hs _ (by omega)]; exact a3⟩
  have hk2 : k < 12 := Nat.lt_of_lt_of_le (List.getElem?_eq_some_iff.mp hk).1 (v2 q (List.mem_of_getElem? hq)).1.2.1
  rw [hs _ (by omega)]; exact a2 k a hk
