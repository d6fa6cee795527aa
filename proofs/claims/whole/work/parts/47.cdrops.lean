/-! drops -/
theorem nle16 {i : Nat} (h : i < 16) : ¬ (16 : Int32) ≤ iz (i : Int) := not_le_ (n := 16) (by omega) h
theorem c_spell {M : Mem} {k i : Nat} (h : i < 16) : f_X7_spellingOf k (iz (i : Int)) M = some (gl M (k + 1) i) := by
  unfold f_X7_spellingOf
  rw [if_neg (not_neg i (by omega)), if_neg (nle16 h), g_t (inB_n h (by omega)), clN (by omega)]
theorem c_wwrite {M : Mem} {k i : Nat} {s : Int64} {l g : Int32} (a2 : alen (k + 2) = 16) (a3 : alen (k + 3) = 16) (h : i < 16) : f_X7_write k (iz (i : Int)) s l g M = some (si (si (sl M (k + 1) i s) (k + 2) i l) (k + 3) i g) := by
  unfold f_X7_write
  rw [if_neg (not_neg i (by omega)), if_neg (nle16 h), g_t (inB_n h (by omega)), nmq_q, clN (by omega), b_s1, c_put a2 (by omega) h, b_s1, c_put a3 (by omega) h, b_s1]
theorem gl_sl' (M : Mem) (k j k' j' : Nat) (v : Int64) : gl (sl M k j v) k' j' = if k' = k ∧ j' = j then v else gl M k' j' := rfl
theorem c_dropL {k n : Nat} (a2 : alen (k + 2) = 16) (a3 : alen (k + 3) = 16) (hn : n ≤ 15) : ∀ (d f x : Nat) (M : Mem), x + d = n → d < f → gi M k 3 = iz (n : Int) →
    ∃ M', lq2 (f_X7_drop_L12 k) f (iz (x : Int)) M = some M' ∧ (∀ w, gl M' (k + 1) w = if x ≤ w ∧ w < n then gl M (k + 1) (w + 1) else gl M (k + 1) w) ∧ (∀ w, gi M' (k + 2) w = if x ≤ w ∧ w < n then gi M (k + 2) (w + 1) else gi M (k + 2) w) ∧ (∀ w, gi M' (k + 3) w = if x ≤ w ∧ w < n then gi M (k + 3) (w + 1) else gi M (k + 3) w) ∧ sameOn (fun a => a ≤ k ∨ k + 4 ≤ a) M M' := by
  intro d
  induction d with
  | zero =>
    intro f x M h1 h2 h3
    obtain ⟨f, rfl⟩ : ∃ g, f = g + 1 := ⟨f - 1, by omega⟩
    refine ⟨M, ?_, fun w => by rw [if_neg (by omega)], fun w => by rw [if_neg (by omega)], fun w => by rw [if_neg (by omega)], sameOn.rf⟩
    rw [lq2_s]
    unfold f_X7_drop_L12
    rw [h3, if_pos ((iz_cnt (by omega) (by omega)).2.2.mpr (by omega))]
  | succ d ih =>
    intro f x M h1 h2 h3
    obtain ⟨f, rfl⟩ : ∃ g, f = g + 1 := ⟨f - 1, by omega⟩
    have c1 : ¬ iz (n : Int) ≤ iz (x : Int) := fun q => by have := (iz_cnt (n := n) (m := x) (by omega) (by omega)).2.2.mp q; omega
    obtain ⟨M1, hM1⟩ : ∃ M1, M1 = si (si (sl M (k + 1) x (gl M (k + 1) (x + 1))) (k + 2) x (gi M (k + 2) (x + 1))) (k + 3) x (gi M (k + 3) (x + 1)) := ⟨_, rfl⟩
    have hs : sameOn (fun a => a ≤ k ∨ k + 4 ≤ a) M M1 := by rw [hM1]; exact ((sameOn.sl (by omega)).tr (sameOn.si (by omega))).tr (sameOn.si (by omega))
    have e1 : ∀ w, gl M1 (k + 1) w = if w = x then gl M (k + 1) (x + 1) else gl M (k + 1) w := fun w => by
      have : gl M1 (k + 1) w = gl (sl M (k + 1) x (gl M (k + 1) (x + 1))) (k + 1) w := by rw [hM1]; rfl
      rw [this, gl_sl']
      by_cases q : w = x
      · rw [if_pos ⟨rfl, q⟩, if_pos q]
      · rw [if_neg (by omega), if_neg q]
    have e2 : ∀ w, gi M1 (k + 2) w = if w = x then gi M (k + 2) (x + 1) else gi M (k + 2) w := fun w => by
      rw [hM1, gi_si, if_neg (by omega), gi_si]
      by_cases q : w = x
      · rw [if_pos ⟨rfl, q⟩, if_pos q]
      · rw [if_neg (by omega), if_neg q]; rfl
    have e3 : ∀ w, gi M1 (k + 3) w = if w = x then gi M (k + 3) (x + 1) else gi M (k + 3) w := fun w => by
      rw [hM1, gi_si]
      by_cases q : w = x
      · rw [if_pos ⟨rfl, q⟩, if_pos q]
      · rw [if_neg (by omega), if_neg q, gi_si, if_neg (by omega)]; rfl
    obtain ⟨M', e', r1, r2, r3, r4⟩ := ih f (x + 1) M1 (by omega) (by omega) (by rw [(hs k (by omega)).1]; exact h3)
    refine ⟨M', ?_, fun w => ?_, fun w => ?_, fun w => ?_, hs.tr r4⟩
    · rw [lq2_s]
      unfold f_X7_drop_L12
      rw [h3, if_neg c1, iz_s, c_spell (by omega), b_s1, c_at a2 (by omega) (by omega), b_s1, c_at a3 (by omega) (by omega), b_s1, c_wwrite a2 a3 (by omega), b_s1, nmq_q, ← hM1]
      exact e'
    · rw [r1]
      by_cases q : x + 1 ≤ w ∧ w < n
      · rw [if_pos q, if_pos (by omega), e1, if_neg (by omega)]
      · rw [if_neg q, e1]
        by_cases q2 : w = x
        · rw [if_pos q2, if_pos (by omega), q2]
        · rw [if_neg q2, if_neg (by omega)]
    · rw [r2]
      by_cases q : x + 1 ≤ w ∧ w < n
      · rw [if_pos q, if_pos (by omega), e2, if_neg (by omega)]
      · rw [if_neg q, e2]
        by_cases q2 : w = x
        · rw [if_pos q2, if_pos (by omega), q2]
        · rw [if_neg q2, if_neg (by omega)]
    · rw [r3]
      by_cases q : x + 1 ≤ w ∧ w < n
      · rw [if_pos q, if_pos (by omega), e3, if_neg (by omega)]
      · rw [if_neg q, e3]
        by_cases q2 : w = x
        · rw [if_pos q2, if_pos (by omega), q2]
        · rw [if_neg q2, if_neg (by omega)]
theorem c_wdrop {k : Nat} {M : Mem} {ws : List Word} {a : Nat} (a2 : alen (k + 2) = 16) (a3 : alen (k + 3) = 16) (h : cWs M k ws) (hl : ws.length ≤ 16) (ha : a < ws.length) :
    ∃ M', f_X7_drop k (iz (a : Int)) M = some (iz ((ws.length - 1 : Nat) : Int), M') ∧ cWs M' k (ws.eraseIdx a) ∧ (∀ j, j ≠ 3 → gi M' k j = gi M k j) ∧ sameOn (fun b => b < k ∨ k + 4 ≤ b) M M' := by
  have e0 : gi M k 3 - (1 : Int32) = iz ((ws.length - 1 : Nat) : Int) := by
    rw [h.1, show (1 : Int32) = iz (1 : Int) from rfl, iz_sub]; congr 1; omega
  obtain ⟨M', e, r1, r2, r3, r4⟩ := c_dropL (n := ws.length - 1) a2 a3 (by omega) (ws.length - 1 - a) FU a (si M k 3 (iz ((ws.length - 1 : Nat) : Int))) (by omega) (by rw [FU_eq]; omega) (by rw [gi_si, if_pos ⟨rfl, rfl⟩])
  have hk3 : gi M' k 3 = iz ((ws.length - 1 : Nat) : Int) := by rw [(r4 k (by omega)).1, gi_si, if_pos ⟨rfl, rfl⟩]
  have s0 : sameOn (fun b => b ≠ k) M (si M k 3 (iz ((ws.length - 1 : Nat) : Int))) := sameOn.si (by omega)
  refine ⟨M', ?_, ⟨?_, fun w q hq => ?_⟩, fun j hj => ?_, (s0.mono (fun b hb => by omega)).tr (r4.mono (fun b hb => by omega))⟩
  · unfold f_X7_drop
    rw [nmq_q, e0, e, b_s1, hk3]
  · rw [hk3, List.length_eraseIdx_of_lt ha]
  · rw [List.getElem?_eraseIdx] at hq
    rw [r1, r2, r3, (s0 (k + 1) (by omega)).2.1, (s0 (k + 2) (by omega)).1, (s0 (k + 3) (by omega)).1]
    by_cases q1 : w < a
    · rw [if_pos q1] at hq
      rw [if_neg (by omega), if_neg (by omega), if_neg (by omega)]; exact h.2 w q hq
    · rw [if_neg q1] at hq
      have := (List.getElem?_eq_some_iff.mp hq).1
      rw [if_pos (by omega), if_pos (by omega), if_pos (by omega)]; exact h.2 (w + 1) q hq
  · rw [(r4 k (by omega)).1, gi_si, if_neg (by omega)]
