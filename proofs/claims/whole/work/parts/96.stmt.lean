/-! a statement, read by the reference -/
def ng (x : Int) : Nat := if x = 103 then 3 else if x = 107 ∨ x = 112 then 2 else if x = 104 ∨ x = 108 ∨ x = 116 ∨ x = 109 ∨ x = 111 then 1 else 0
def nvl (ls : List Nat) (x : Int) (q t : Nat) : Int := if x = 104 ∨ x = 108 ∨ x = 116 then dval ls 2 q 0 else dval ls 1 (q + t) 0
def kT (i : Nat) (M M' : Mem) : Prop := sameOn (fun k => k ≠ 139 ∧ (k < 157 ∨ 161 < k)) M M' ∧ (∀ j, j ≠ 37 → j ≠ 39 → gi M' 139 j = gi M 139 j) ∧ (∀ t, t ≠ i → gi M' 157 t = gi M 157 t ∧ gi M' 158 t = gi M 158 t ∧ gi M' 160 t = gi M 160 t ∧ gi M' 161 t = gi M 161 t) ∧ ∀ u, u < 3 * i ∨ 3 * i + 3 ≤ u → gi M' 159 u = gi M 159 u
theorem kT.rf {i : Nat} {M : Mem} : kT i M M := ⟨sameOn.rf, fun _ _ _ => rfl, fun _ _ => ⟨rfl, rfl, rfl, rfl⟩, fun _ _ => rfl⟩
theorem kT.tr {i : Nat} {M M' M'' : Mem} (h : kT i M M') (h' : kT i M' M'') : kT i M M'' := ⟨h.1.tr h'.1, fun j h1 h2 => (h'.2.1 j h1 h2).trans (h.2.1 j h1 h2), fun t ht => ⟨(h'.2.2.1 t ht).1.trans (h.2.2.1 t ht).1, (h'.2.2.1 t ht).2.1.trans (h.2.2.1 t ht).2.1, (h'.2.2.1 t ht).2.2.1.trans (h.2.2.1 t ht).2.2.1, (h'.2.2.1 t ht).2.2.2.trans (h.2.2.1 t ht).2.2.2⟩, fun u hu => (h'.2.2.2 u hu).trans (h.2.2.2 u hu)⟩
theorem kR.toT {i m g : Nat} {M M' : Mem} (h : kR M M') (hu : ∀ u, u < g ∨ g + m ≤ u → gi M' 159 u = gi M 159 u) (h1 : 3 * i ≤ g) (h2 : g + m ≤ 3 * i + 3) : kT i M M' := ⟨h.1.mono (fun a ha => by omega), h.2, fun t _ => ⟨by rw [(h.1 157 (by omega)).1], by rw [(h.1 158 (by omega)).1], by rw [(h.1 160 (by omega)).1], by rw [(h.1 161 (by omega)).1]⟩, fun u h3 => hu u (by omega)⟩
/-- what is kept of what follows the sign -/
def recR (M : Mem) (ls : List Nat) (i p : Nat) (x : Int) : Prop := (lmx x ≠ 0 → gi M 160 i = iz ((p + 1 : Nat) : Int) ∧ gi M 161 i = iz (lrun ls (lmx x) (p + 1) : Int)) ∧ ∀ t, t < ng x → gi M 159 (3 * i + t) = iz (nvl ls x (p + 1 + lrun ls (lmx x) (p + 1)) t)
theorem zb_if (P : Prop) [Decidable P] : zB (if P then (1 : Int32) else 0) := by
  by_cases q : P
  · rw [if_pos q]; exact Or.inr rfl
  · rw [if_neg q]; exact Or.inl rfl
theorem dec_if (P : Prop) [Decidable P] : (if decide P = true then (1 : Int32) else 0) = (if P then 1 else 0) := by
  by_cases q : P
  · rw [if_pos (decide_eq_true q), if_pos q]
  · rw [if_neg (by rw [decide_eq_false q]; decide), if_neg q]
theorem ra_103 {M : Mem} : f_X9_readsAll (103 : Int32) M = ones 3 M := by
  unfold f_X9_readsAll
  rw [if_pos rfl]; rfl
theorem ra_107 {M : Mem} : f_X9_readsAll (107 : Int32) M = ones 2 M := by
  unfold f_X9_readsAll
  iterate 4 rw [if_neg (by decide)]
  rw [if_pos rfl]; rfl
theorem ra_one {M : Mem} {x : Int} (hx : x = 109 ∨ x = 111) : f_X9_readsAll (iz x) M = bq2 (f_X9_readsDigits (1 : Int32) M) (fun (x : Int32) (M' : Mem) => gq (zB x) (some (x, M'))) := by
  unfold f_X9_readsAll
  rcases hx with rfl | rfl
  · iterate 6 rw [if_neg (by decide)]
    rw [if_pos (by decide)]
  · iterate 8 rw [if_neg (by decide)]
    rw [if_pos (by decide)]
theorem ra_two {M : Mem} {x : Int} (hx : x = 104 ∨ x = 108 ∨ x = 116) : f_X9_readsAll (iz x) M = bq2 (f_X9_readsDigits (2 : Int32) M) (fun (x : Int32) (M' : Mem) => gq (zB x) (some (x, M'))) := by
  unfold f_X9_readsAll
  rcases hx with rfl | rfl | rfl
  · iterate 1 rw [if_neg (by decide)]
    rw [if_pos (by decide)]
  · iterate 5 rw [if_neg (by decide)]
    rw [if_pos (by decide)]
  · iterate 13 rw [if_neg (by decide)]
    rw [if_pos (by decide)]
theorem ra_110 {M : Mem} : f_X9_readsAll (110 : Int32) M = some ((1 : Int32), M) := by
  unfold f_X9_readsAll
  iterate 7 rw [if_neg (by decide)]
  rw [if_pos rfl]
theorem ra_112 {M : Mem} : f_X9_readsAll (112 : Int32) M = bq2 (f_X9_readsLetters (3 : Int32) M) (fun (x : Int32) (M' : Mem) => if x = 0 then some ((0 : Int32), M') else ones 2 M') := by
  unfold f_X9_readsAll
  iterate 9 rw [if_neg (by decide)]
  rw [if_pos rfl]; rfl
theorem ra_119 {M : Mem} : f_X9_readsAll (119 : Int32) M = bq2 (f_X9_readsLetters (12 : Int32) M) (fun (x : Int32) (M' : Mem) => gq (zB x) (some (x, M'))) := by
  unfold f_X9_readsAll
  iterate 16 rw [if_neg (by decide)]
  rw [if_pos rfl]
theorem dbv_iff {x : Int} : 0 ≤ dbv x ↔ (x = 119 ∨ x = 110 ∨ x = 112 ∨ x = 108 ∨ x = 103 ∨ x = 116 ∨ x = 104 ∨ x = 111 ∨ x = 109 ∨ x = 107) := by
  unfold dbv
  repeat' split
  all_goals omega
theorem rdR_0 {ls : List Nat} {x : Int} {p D : Nat} (h0 : lmx x = 0) (hD : (dbv x).toNat = D) : rdR ls x p = (decide (drun ls D p = D), p + drun ls D p) := by
  unfold rdR
  rw [if_neg (fun e => e.1 h0), h0, hD]; rfl
theorem m_readsAll {ls : List Nat} (hl : okSh ls) {i p : Nat} (hi : i < 49) (hp2 : p ≤ 100) {x : Int} (hx : 0 ≤ dbv x) {M : Mem} (hs : mSh M ls) (hp : gi M 139 37 = iz ((p + 1 : Nat) : Int)) (h38 : gi M 139 38 = iz (i : Int)) (h39 : gi M 139 39 = iz ((3 * i : Nat) : Int)) :
    ∃ M', f_X9_readsAll (iz x) M = some ((if (rdR ls x (p + 1)).1 = true then 1 else 0), M') ∧ gi M' 139 37 = iz ((rdR ls x (p + 1)).2 : Int) ∧ ((rdR ls x (p + 1)).1 = true → recR M' ls i p x) ∧ kT i M M' ∧ gi M' 157 = gi M 157 ∧ gi M' 158 = gi M 158 := by
  -- with single digits only
  have hones : ∀ m, m ≤ 3 → lmx x = 0 → (dbv x).toNat = m → ng x = m → ¬ (x = 104 ∨ x = 108 ∨ x = 116) → f_X9_readsAll (iz x) M = ones m M → ∃ M', f_X9_readsAll (iz x) M = some ((if (rdR ls x (p + 1)).1 = true then 1 else 0), M') ∧ gi M' 139 37 = iz ((rdR ls x (p + 1)).2 : Int) ∧ ((rdR ls x (p + 1)).1 = true → recR M' ls i p x) ∧ kT i M M' ∧ gi M' 157 = gi M 157 ∧ gi M' 158 = gi M 158 := by
    intro m hm h0 hD hg hnt he
    obtain ⟨M', r1, r2, r3, r4, r5⟩ := m_ones hl m (3 * i) (p + 1) M hm (by omega) (by omega) hs hp h39
    rw [he, rdR_0 h0 hD]
    refine ⟨M', by rw [r1]; show _ = some ((if decide (drun ls m (p + 1) = m) = true then 1 else 0), M'); rw [dec_if], r2, fun h => ⟨fun e => absurd h0 e, fun t ht => ?_⟩, r5.toT r4 (by omega) (by omega), (r5.1 157 (by omega)).1, (r5.1 158 (by omega)).1⟩
    rw [hg] at ht
    have := r3 (of_decide_eq_true h) t ht
    unfold nvl
    rw [if_neg hnt, h0]; exact this
  have hdig : ∀ n, n ≤ 2 → lmx x = 0 → (dbv x).toNat = n → ng x = 1 → (∀ q, nvl ls x q 0 = dval ls n q 0) → f_X9_readsAll (iz x) M = bq2 (f_X9_readsDigits (iz (n : Int)) M) (fun (x : Int32) (M' : Mem) => gq (zB x) (some (x, M'))) → ∃ M', f_X9_readsAll (iz x) M = some ((if (rdR ls x (p + 1)).1 = true then 1 else 0), M') ∧ gi M' 139 37 = iz ((rdR ls x (p + 1)).2 : Int) ∧ ((rdR ls x (p + 1)).1 = true → recR M' ls i p x) ∧ kT i M M' ∧ gi M' 157 = gi M 157 ∧ gi M' 158 = gi M 158 := by
    intro n hn h0 hD hg hnv he
    obtain ⟨M', r1, r2, r3, r4, r5⟩ := m_dig hl (n := n) (g := 3 * i) hn (by omega) (p := p + 1) (by omega) hs hp h39
    rw [he, rdR_0 h0 hD, r1, b_s2, g_t (zb_if _)]
    refine ⟨M', by show _ = some ((if decide (drun ls n (p + 1) = n) = true then 1 else 0), M'); rw [dec_if], r2, fun h => ⟨fun e => absurd h0 e, fun t ht => ?_⟩, r5.toT (g := 3 * i) (m := 1) (fun u hu => r4 u (by omega)) (by omega) (by omega), (r5.1 157 (by omega)).1, (r5.1 158 (by omega)).1⟩
    rw [hg] at ht
    have := (r3 (of_decide_eq_true h)).1
    rw [show t = 0 by omega, hnv, h0]; exact this
  rcases dbv_iff.mp hx with e | e | e | e | e | e | e | e | e | e
  · -- w
    subst e
    obtain ⟨M', r1, r2, r3, r4, r5, r6, r7⟩ := m_letters hl (m := 12) (i := i) (p := p + 1) (by omega) hi (by omega) hs hp h38
    have r1' : f_X9_readsLetters (12 : Int32) M = _ := r1
    have hr : rdR ls 119 (p + 1) = (if lrun ls 12 (p + 1) = 0 then (false, p + 1) else (true, p + 1 + lrun ls 12 (p + 1))) := by
      unfold rdR
      show (if (12 : Nat) ≠ 0 ∧ lrun ls 12 (p + 1) = 0 then (false, p + 1) else (true, p + 1 + lrun ls 12 (p + 1) + 0)) = _
      by_cases q : lrun ls 12 (p + 1) = 0
      · rw [if_pos q, if_pos ⟨by omega, q⟩]
      · rw [if_neg q, if_neg (fun e => q e.2)]; rfl
    have e119 : iz (119 : Int) = (119 : Int32) := rfl
    rw [e119, ra_119, r1', b_s2, hr]
    have hz : zB (if lrun ls 12 (p + 1) = 0 then (0 : Int32) else 1) := by
      by_cases q : lrun ls 12 (p + 1) = 0
      · rw [if_pos q]; exact Or.inl rfl
      · rw [if_neg q]; exact Or.inr rfl
    rw [g_t hz]
    have kk : kT i M M' := ⟨r6.mono (fun a ha => by omega), fun j h1 h2 => r7 j h1, fun t ht => ⟨by rw [(r6 157 (by omega)).1], by rw [(r6 158 (by omega)).1], (r5 t ht).1, (r5 t ht).2⟩, fun u hu => by rw [(r6 159 (by omega)).1]⟩
    refine ⟨M', ?_, ?_, fun _ => ⟨fun _ => ⟨r3, r4⟩, fun t ht => absurd ht (by show ¬ t < 0; omega)⟩, kk, (r6 157 (by omega)).1, (r6 158 (by omega)).1⟩
    · by_cases q : lrun ls 12 (p + 1) = 0
      · rw [if_pos q, if_pos q]; rfl
      · rw [if_neg q, if_neg q]; rfl
    · rw [r2]
      by_cases q : lrun ls 12 (p + 1) = 0
      · rw [if_pos q, q]
      · rw [if_neg q]
  · -- n
    subst e
    refine hones 0 (by omega) rfl rfl rfl (by omega) ra_110
  · -- p
    subst e
    obtain ⟨M1, r1, r2, r3, r4, r5, r6, r7⟩ := m_letters hl (m := 3) (i := i) (p := p + 1) (by omega) hi (by omega) hs hp h38
    have r1' : f_X9_readsLetters (3 : Int32) M = _ := r1
    have hle := lrun_le (ls := ls) 3 (p + 1)
    have hr : rdR ls 112 (p + 1) = (if lrun ls 3 (p + 1) = 0 then (false, p + 1) else (decide (drun ls 2 (p + 1 + lrun ls 3 (p + 1)) = 2), p + 1 + lrun ls 3 (p + 1) + drun ls 2 (p + 1 + lrun ls 3 (p + 1)))) := by
      unfold rdR
      show (if (3 : Nat) ≠ 0 ∧ lrun ls 3 (p + 1) = 0 then (false, p + 1) else _) = _
      by_cases q : lrun ls 3 (p + 1) = 0
      · rw [if_pos q, if_pos ⟨by omega, q⟩]
      · rw [if_neg q, if_neg (fun e => q e.2)]; rfl
    have e112 : iz (112 : Int) = (112 : Int32) := rfl
    have kk : kT i M M1 := ⟨r6.mono (fun a ha => by omega), fun j h1 h2 => r7 j h1, fun t ht => ⟨by rw [(r6 157 (by omega)).1], by rw [(r6 158 (by omega)).1], (r5 t ht).1, (r5 t ht).2⟩, fun u hu => by rw [(r6 159 (by omega)).1]⟩
    rw [e112, ra_112, r1', b_s2, hr]
    by_cases q : lrun ls 3 (p + 1) = 0
    · rw [if_pos q, if_pos rfl, if_pos q]
      exact ⟨M1, rfl, by rw [r2, q], (fun h => by cases h), kk, (r6 157 (by omega)).1, (r6 158 (by omega)).1⟩
    · rw [if_neg q, if_neg (by decide), if_neg q]
      have hs1 : mSh M1 ls := ⟨(r7 36 (by omega)).trans hs.1, fun i a ha => by rw [(r6 156 (by omega)).1]; exact hs.2 i a ha⟩
      obtain ⟨M', t1, t2, t3, t4, t5⟩ := m_ones hl 2 (3 * i) (p + 1 + lrun ls 3 (p + 1)) M1 (by omega) (by omega) (by omega) hs1 r2 ((r7 39 (by omega)).trans h39)
      refine ⟨M', by rw [t1]; show _ = some ((if decide (drun ls 2 (p + 1 + lrun ls 3 (p + 1)) = 2) = true then 1 else 0), M'); rw [dec_if], t2, fun h => ⟨fun _ => ⟨by rw [(t5.1 160 (by omega)).1]; exact r3, by rw [(t5.1 161 (by omega)).1]; exact r4⟩, fun t ht => ?_⟩, kk.tr (t5.toT t4 (by omega) (by omega)), by rw [(t5.1 157 (by omega)).1, (r6 157 (by omega)).1], by rw [(t5.1 158 (by omega)).1, (r6 158 (by omega)).1]⟩
      have ht : t < 2 := ht
      exact t3 (of_decide_eq_true h) t ht
  · subst e; exact hdig 2 (by omega) rfl rfl rfl (fun _ => rfl) (ra_two (by omega))
  · subst e; exact hones 3 (by omega) rfl rfl rfl (by omega) ra_103
  · subst e; exact hdig 2 (by omega) rfl rfl rfl (fun _ => rfl) (ra_two (by omega))
  · subst e; exact hdig 2 (by omega) rfl rfl rfl (fun _ => rfl) (ra_two (by omega))
  · subst e; exact hdig 1 (by omega) rfl rfl rfl (fun _ => rfl) (ra_one (by omega))
  · subst e; exact hdig 1 (by omega) rfl rfl rfl (fun _ => rfl) (ra_one (by omega))
  · subst e; exact hones 2 (by omega) rfl rfl rfl (by omega) ra_107
/-- all that is kept of a statement -/
def recS (M : Mem) (ls : List Nat) (i p : Nat) : Prop := gi M 157 i = iz (sg ls p) ∧ gi M 158 i = iz (p : Int) ∧ recR M ls i p (sg ls p)
theorem recS.keep {i t p : Nat} {ls : List Nat} {M M' : Mem} (h : kT i M M') (ht : t < i) (hr : recS M ls t p) : recS M' ls t p := by
  obtain ⟨h1, h2, h3, h4⟩ := hr
  have hk := h.2.2.1 t (by omega)
  refine ⟨hk.1.trans h1, hk.2.1.trans h2, fun e => ⟨hk.2.2.1.trans (h3 e).1, hk.2.2.2.trans (h3 e).2⟩, fun u hu => ?_⟩
  have hn : ng (sg ls p) ≤ 3 := by
    unfold ng
    repeat' split
    all_goals omega
  rw [h.2.2.2 _ (by omega)]; exact h4 u hu
theorem m_stKnown {x : Int} (h1 : -1 ≤ x) (h2 : x ≤ 255) (A B : Option (Int32 × Mem)) : (if iz x = (119 : Int32) then A else (if iz x = (110 : Int32) then A else (if iz x = (112 : Int32) then A else (if iz x = (108 : Int32) then A else (if iz x = (103 : Int32) then A else (if iz x = (116 : Int32) then A else (if iz x = (104 : Int32) then A else (if iz x = (111 : Int32) then A else (if iz x = (109 : Int32) then A else (if iz x = (107 : Int32) then A else B)))))))))) = (if 0 ≤ dbv x then A else B) := by
  have hj : ∀ c : Int, 0 ≤ c → c ≤ 255 → ((iz x = iz c) ↔ x = c) := fun c c1 c2 => iz_eq (a := x) (b := c) (by omega) (by omega) (by omega) (by omega)
  have hd := dbv_iff (x := x)
  have j1 : (iz x = (119 : Int32)) ↔ x = 119 := hj 119 (by omega) (by omega)
  have j2 : (iz x = (110 : Int32)) ↔ x = 110 := hj 110 (by omega) (by omega)
  have j3 : (iz x = (112 : Int32)) ↔ x = 112 := hj 112 (by omega) (by omega)
  have j4 : (iz x = (108 : Int32)) ↔ x = 108 := hj 108 (by omega) (by omega)
  have j5 : (iz x = (103 : Int32)) ↔ x = 103 := hj 103 (by omega) (by omega)
  have j6 : (iz x = (116 : Int32)) ↔ x = 116 := hj 116 (by omega) (by omega)
  have j7 : (iz x = (104 : Int32)) ↔ x = 104 := hj 104 (by omega) (by omega)
  have j8 : (iz x = (111 : Int32)) ↔ x = 111 := hj 111 (by omega) (by omega)
  have j9 : (iz x = (109 : Int32)) ↔ x = 109 := hj 109 (by omega) (by omega)
  have j10 : (iz x = (107 : Int32)) ↔ x = 107 := hj 107 (by omega) (by omega)
  by_cases q1 : x = 119
  · rw [if_pos (j1.mpr q1), if_pos (hd.mpr (by omega))]
  rw [if_neg (fun e => q1 (j1.mp e))]
  by_cases q2 : x = 110
  · rw [if_pos (j2.mpr q2), if_pos (hd.mpr (by omega))]
  rw [if_neg (fun e => q2 (j2.mp e))]
  by_cases q3 : x = 112
  · rw [if_pos (j3.mpr q3), if_pos (hd.mpr (by omega))]
  rw [if_neg (fun e => q3 (j3.mp e))]
  by_cases q4 : x = 108
  · rw [if_pos (j4.mpr q4), if_pos (hd.mpr (by omega))]
  rw [if_neg (fun e => q4 (j4.mp e))]
  by_cases q5 : x = 103
  · rw [if_pos (j5.mpr q5), if_pos (hd.mpr (by omega))]
  rw [if_neg (fun e => q5 (j5.mp e))]
  by_cases q6 : x = 116
  · rw [if_pos (j6.mpr q6), if_pos (hd.mpr (by omega))]
  rw [if_neg (fun e => q6 (j6.mp e))]
  by_cases q7 : x = 104
  · rw [if_pos (j7.mpr q7), if_pos (hd.mpr (by omega))]
  rw [if_neg (fun e => q7 (j7.mp e))]
  by_cases q8 : x = 111
  · rw [if_pos (j8.mpr q8), if_pos (hd.mpr (by omega))]
  rw [if_neg (fun e => q8 (j8.mp e))]
  by_cases q9 : x = 109
  · rw [if_pos (j9.mpr q9), if_pos (hd.mpr (by omega))]
  rw [if_neg (fun e => q9 (j9.mp e))]
  by_cases q10 : x = 107
  · rw [if_pos (j10.mpr q10), if_pos (hd.mpr (by omega))]
  rw [if_neg (fun e => q10 (j10.mp e)), if_neg (fun e => by have := hd.mp e; omega)]
theorem rdR_le {ls : List Nat} {x : Int} {p : Nat} : p ≤ (rdR ls x p).2 ∧ (rdR ls x p).2 ≤ p + 15 := by
  have h1 := lrun_le (ls := ls) (lmx x) p
  have h2 := drun_le (ls := ls) (dbv x).toNat (p + lrun ls (lmx x) p)
  have h3 := lmx_b x
  have h4 := dbv_b x
  unfold rdR
  by_cases q : lmx x ≠ 0 ∧ lrun ls (lmx x) p = 0
  · rw [if_pos q]
    show p ≤ p ∧ p ≤ p + 15
    omega
  · rw [if_neg q]
    show p ≤ p + lrun ls (lmx x) p + drun ls (dbv x).toNat (p + lrun ls (lmx x) p) ∧ p + lrun ls (lmx x) p + drun ls (dbv x).toNat (p + lrun ls (lmx x) p) ≤ p + 15
    omega
theorem m_statement {ls : List Nat} (hl : okSh ls) {i p : Nat} (hi : i < 49) (hp2 : p ≤ 100) {M : Mem} (hs : mSh M ls) (hp : gi M 139 37 = iz (p : Int)) (h38 : gi M 139 38 = iz (i : Int)) :
    ∃ M', f_X9_statement M = some ((if (pst ls p).1 = true then 1 else 0), M') ∧ gi M' 139 37 = iz ((pst ls p).2 : Int) ∧ ((pst ls p).1 = true → recS M' ls i p) ∧ kT i M M' := by
  have hb := sg_b hl p
  have hst := m_sign hl hs hp (by omega)
  by_cases q0 : dbv (sg ls p) < 0
  · have ep : pst ls p = (false, p) := by unfold pst; rw [if_pos q0]
    rw [ep]
    refine ⟨M, ?_, hp, (fun h => by cases h), kT.rf⟩
    unfold f_X9_statement
    rw [hst, b_s1, jq_q, m_stKnown hb.1 hb.2, if_neg (by omega)]; rfl
  have h0 : 0 ≤ dbv (sg ls p) := by omega
  have hcl : (iz (i : Int) : Int32).toNatClampNeg = i := clN (by omega)
  obtain ⟨M6, e6⟩ : ∃ M6, M6 = si M 157 i (iz (sg ls p)) := ⟨_, rfl⟩
  have s6 : sameOn (fun k => k ≠ 157) M M6 := by rw [e6]; exact sameOn.si (by omega)
  have f6 : ∀ j, gi M6 139 j = gi M 139 j := fun j => by rw [(s6 139 (by omega)).1]
  obtain ⟨M8, e8⟩ : ∃ M8, M8 = si M6 158 i (gi M6 139 37) := ⟨_, rfl⟩
  have s8 : sameOn (fun k => k ≠ 158) M6 M8 := by rw [e8]; exact sameOn.si (by omega)
  have f8 : ∀ j, gi M8 139 j = gi M 139 j := fun j => by rw [(s8 139 (by omega)).1, f6 j]
  obtain ⟨M9, e9⟩ : ∃ M9, M9 = si M8 139 39 ((3 : Int32) * (gi M8 139 38)) := ⟨_, rfl⟩
  have f9 : ∀ j, j ≠ 39 → gi M9 139 j = gi M 139 j := fun j hj => by rw [e9, gi_si, if_neg (by omega), f8 j]
  have s9 : sameOn (fun k => k ≠ 139) M8 M9 := by rw [e9]; exact sameOn.si (by omega)
  obtain ⟨M10, e10⟩ : ∃ M10, M10 = si M9 139 37 (gi M9 139 37 + 1) := ⟨_, rfl⟩
  have s10 : sameOn (fun k => k ≠ 139) M9 M10 := by rw [e10]; exact sameOn.si (by omega)
  have f10 : ∀ j, j ≠ 37 → j ≠ 39 → gi M10 139 j = gi M 139 j := fun j h1 h2 => by rw [e10, gi_si, if_neg (by omega), f9 j h2]
  have h37 : gi M10 139 37 = iz ((p + 1 : Nat) : Int) := by rw [e10, gi_si, if_pos ⟨rfl, rfl⟩, f9 37 (by omega), hp, iz_s]
  have h39 : gi M10 139 39 = iz ((3 * i : Nat) : Int) := by
    rw [e10, gi_si, if_neg (by omega), e9, gi_si, if_pos ⟨rfl, rfl⟩, f8 38, h38, show (3 : Int32) = iz 3 from rfl, iz_mul]
    congr 1
  have sA : sameOn (fun k => k ≠ 139 ∧ k ≠ 157 ∧ k ≠ 158) M M10 := (((s6.mono (fun a ha => by omega)).tr (s8.mono (fun a ha => by omega))).tr (s9.mono (fun a ha => by omega))).tr (s10.mono (fun a ha => by omega))
  have h157 : ∀ t, gi M10 157 t = if t = i then iz (sg ls p) else gi M 157 t := fun t => by
    rw [(s10 157 (by omega)).1, (s9 157 (by omega)).1, (s8 157 (by omega)).1, e6, gi_si]
    by_cases q : t = i
    · rw [if_pos ⟨rfl, q⟩, if_pos q]
    · rw [if_neg (by omega), if_neg q]
  have h158 : ∀ t, gi M10 158 t = if t = i then iz (p : Int) else gi M 158 t := fun t => by
    rw [(s10 158 (by omega)).1, (s9 158 (by omega)).1, e8, gi_si, (s6 158 (by omega)).1, f6 37, hp]
    by_cases q : t = i
    · rw [if_pos ⟨rfl, q⟩, if_pos q]
    · rw [if_neg (by omega), if_neg q]
  have k10 : kT i M M10 := ⟨sA.mono (fun a ha => by omega), f10, fun t ht => ⟨by rw [h157, if_neg ht], by rw [h158, if_neg ht], by rw [(sA 160 (by omega)).1], by rw [(sA 161 (by omega)).1]⟩, fun u _ => by rw [(sA 159 (by omega)).1]⟩
  have hs10 : mSh M10 ls := ⟨(f10 36 (by omega) (by omega)).trans hs.1, fun i a ha => by rw [(sA 156 (by omega)).1]; exact hs.2 i a ha⟩
  obtain ⟨M12, r1, r2, r3, r4, r5, r6⟩ := m_readsAll hl hi hp2 h0 hs10 h37 ((f10 38 (by omega) (by omega)).trans h38) h39
  have hrl := rdR_le (ls := ls) (x := sg ls p) (p := p + 1)
  have k12 : kT i M M12 := k10.tr r4
  have hs12 : mSh M12 ls := ⟨(r4.2.1 36 (by omega) (by omega)).trans hs10.1, fun i a ha => by rw [(r4.1 156 (by omega)).1]; exact hs10.2 i a ha⟩
  have hpre : f_X9_statement M = (bq2 (f_X9_readsAll (iz (sg ls p)) M10) (fun (x11 : Int32) (M12 : Mem) => (if x11 = 0 then some ((0 : Int32), M12) else (bq1 (f_X9_sign M12) (fun (x15 : Int32) => (if x15 = (59 : Int32) then (nmq (si M12 139 37 ((gi M12 139 37) + (1 : Int32))) (fun (M18 : Mem) => some ((1 : Int32), M18))) else some ((0 : Int32), M12))))))) := by
    unfold f_X9_statement
    rw [hst, b_s1, jq_q, m_stKnown hb.1 hb.2, if_pos h0]
    show gq (inB (gi M 139 38) 49) _ = _
    rw [h38, g_t (inB_n hi (by omega)), nmq_q, hcl, ← e6, f6 38, h38, g_t (inB_n hi (by omega)), nmq_q, hcl, ← e8, nmq_q, ← e9, nmq_q, ← e10]
  have ep : pst ls p = (if (rdR ls (sg ls p) (p + 1)).1 = true then (if sg ls (rdR ls (sg ls p) (p + 1)).2 = 59 then (true, (rdR ls (sg ls p) (p + 1)).2 + 1) else (false, (rdR ls (sg ls p) (p + 1)).2)) else (false, (rdR ls (sg ls p) (p + 1)).2)) := by unfold pst; rw [if_neg q0]
  rw [hpre, r1, b_s2, ep]
  by_cases q1 : (rdR ls (sg ls p) (p + 1)).1 = true
  · have hb2 := sg_b hl (rdR ls (sg ls p) (p + 1)).2
    have j59 : (iz (sg ls (rdR ls (sg ls p) (p + 1)).2) = (59 : Int32)) ↔ sg ls (rdR ls (sg ls p) (p + 1)).2 = 59 := iz_eq (a := sg ls (rdR ls (sg ls p) (p + 1)).2) (b := 59) (by omega) (by omega) (by omega) (by omega)
    rw [if_pos q1, if_neg (by decide), if_pos q1, m_sign hl hs12 r2 (by omega), b_s1]
    have hrec : recS M12 ls i p := ⟨by rw [r5, h157, if_pos rfl], by rw [r6, h158, if_pos rfl], r3 q1⟩
    by_cases q2 : sg ls (rdR ls (sg ls p) (p + 1)).2 = 59
    · rw [if_pos (j59.mpr q2), if_pos q2, nmq_q]
      have kl : kT i M12 (si M12 139 37 (gi M12 139 37 + 1)) := ⟨sameOn.si (by omega), fun j h1 h2 => by rw [gi_si, if_neg (by omega)], fun t _ => ⟨by rw [gi_si, if_neg (by omega)], by rw [gi_si, if_neg (by omega)], by rw [gi_si, if_neg (by omega)], by rw [gi_si, if_neg (by omega)]⟩, fun u _ => by rw [gi_si, if_neg (by omega)]⟩
      refine ⟨_, rfl, by rw [gi_si, if_pos ⟨rfl, rfl⟩, r2, iz_s], fun _ => ?_, k12.tr kl⟩
      have ss : sameOn (fun k => k ≠ 139) M12 (si M12 139 37 (gi M12 139 37 + 1)) := sameOn.si (by omega)
      obtain ⟨a1, a2, a3, a4⟩ := hrec
      refine ⟨by rw [(ss 157 (by omega)).1]; exact a1, by rw [(ss 158 (by omega)).1]; exact a2, fun e => ⟨by rw [(ss 160 (by omega)).1]; exact (a3 e).1, by rw [(ss 161 (by omega)).1]; exact (a3 e).2⟩, fun t ht => by rw [(ss 159 (by omega)).1]; exact a4 t ht⟩
    · rw [if_neg (fun e => q2 (j59.mp e)), if_neg q2]
      exact ⟨_, rfl, r2, (fun h => by cases h), k12⟩
  · rw [if_neg q1, if_pos rfl, if_neg q1]
    exact ⟨_, rfl, r2, (fun h => by cases h), k12⟩
