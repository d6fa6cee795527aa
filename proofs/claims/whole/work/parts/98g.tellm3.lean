/-! a statement told by the reference, whole -/
theorem m_fin {E : Option (Int32 × Mem)} {M : Mem} {v0 : Option PV} {P : Prop} [Decidable P] {w : PV} (h : ∃ M', E = some ((if P then 1 else 0), M') ∧ (P → mPar (rdNow M') w) ∧ kZ M M') (ht : v0 = if P then some w else none) : ∃ M', bq2 E (fun (x : Int32) (M' : Mem) => gq (zB x) (some (x, M'))) = some ((if v0.isSome = true then 1 else 0), M') ∧ (∀ v', v0 = some v' → mPar (rdNow M') v') ∧ kZ M M' := by
  obtain ⟨M', h1, h2, h4⟩ := h
  refine ⟨M', ?_, fun v' hv' => ?_, h4⟩
  · rw [h1, b_s2, g_t (zb_if P), ht]
    by_cases q : P
    · rw [if_pos q, if_pos q]; rfl
    · rw [if_neg q, if_neg q]; rfl
  · rw [ht] at hv'
    by_cases q : P
    · rw [if_pos q] at hv'; cases hv'; exact h2 q
    · rw [if_neg q] at hv'; cases hv'
theorem m_tGlue {v : PV} (hv : okN v) {x y z : Int} (hx : 0 ≤ x ∧ x ≤ 9) (hz : 0 ≤ z ∧ z ≤ 9) {M : Mem} (hm : mPar (rdNow M) v) : ∃ M', f_X9_comesGlue (iz x) (iz y) (iz z) M = some ((if 2 ≤ x ∧ z ≤ x then 1 else 0), M') ∧ (2 ≤ x ∧ z ≤ x → mPar (rdNow M') (setN v (up (up (up v.2.2.2 1 x) 2 y) 3 z))) ∧ kZ M M' := by
  have j1 : (iz x < (2 : Int32)) ↔ x < 2 := iz_lt (a := x) (b := 2) (by omega) (by omega) (by omega) (by omega)
  have j2 : (iz z ≤ iz x) ↔ z ≤ x := iz_le (a := z) (b := x) (by omega) (by omega) (by omega) (by omega)
  unfold f_X9_comesGlue
  by_cases q1 : x < 2
  · rw [if_pos (j1.mpr q1), if_neg (show ¬ (2 ≤ x ∧ z ≤ x) by omega)]
    exact ⟨M, rfl, fun h => by omega, kZ.rf⟩
  rw [if_neg (fun e => q1 (j1.mp e))]
  by_cases q2 : z ≤ x
  · have hP : 2 ≤ x ∧ z ≤ x := ⟨by omega, q2⟩
    rw [if_pos (j2.mpr q2), if_pos hP]
    obtain ⟨M', e, h2, -, -⟩ := (ch_glue hv x y z).2 M hm
    have e2 := congrArg (Option.map Prod.snd) e
    have e3 : si (si (si M 139 12 (iz x)) 139 13 (iz y)) 139 14 (iz z) = M' := Option.some.inj e2
    refine ⟨si (si (si M 139 12 (iz x)) 139 13 (iz y)) 139 14 (iz z), rfl, fun _ => by rw [e3]; exact h2, ((kZ.fld (by omega)).tr (kZ.fld (by omega))).tr (kZ.fld (by omega))⟩
  · rw [if_neg (fun e => q2 (j2.mp e)), if_neg (show ¬ (2 ≤ x ∧ z ≤ x) by omega)]
    exact ⟨M, rfl, fun h => by omega, kZ.rf⟩
theorem m_tKind {v : PV} (hv : okN v) {x y : Int} (hx : 0 ≤ x ∧ x ≤ 9) {M : Mem} (hm : mPar (rdNow M) v) : ∃ M', f_X9_comesKind (iz x) (iz y) M = some ((if x ≤ 5 then 1 else 0), M') ∧ (x ≤ 5 → mPar (rdNow M') (setN v (up (up v.2.2.2 8 x) 9 y))) ∧ kZ M M' := by
  have j1 : ((6 : Int32) ≤ iz x) ↔ 6 ≤ x := iz_le (a := 6) (b := x) (by omega) (by omega) (by omega) (by omega)
  refine ⟨si (si M 139 19 (iz x)) 139 20 (iz y), ?_, fun h => ?_, (kZ.fld (by omega)).tr (kZ.fld (by omega))⟩
  · unfold f_X9_comesKind
    rw [nmq_q, nmq_q]
    by_cases q : x ≤ 5
    · rw [if_neg (fun e => by have := j1.mp e; omega), if_pos q]
    · rw [if_pos (j1.mpr (by omega)), if_neg q]
  · exact (hm.num hv.1 (i := 8) (z := x) (by omega)).num (okS_up (i := 8) hv (by omega)).1 (i := 9) (z := y) (by omega)
theorem m_tNumber {v : PV} (hv : okV v) {x n : Int} {i : Nat} {P : Prop} [Decidable P] (hn : 0 ≤ n ∧ n ≤ 99) (hx : (x = 104 ∧ i = 5 ∧ P = True) ∨ (x = 108 ∧ i = 0 ∧ P = (10 ≤ n ∧ n ≤ 60)) ∨ (x = 109 ∧ i = 7 ∧ P = (n ≤ 2)) ∨ (x = 111 ∧ i = 6 ∧ P = True) ∨ (x = 116 ∧ i = 4 ∧ P = (n ≤ 40))) {M : Mem} (hm : mPar (rdNow M) v) :
    ∃ M', f_X9_comesNumber (iz x) (iz n) M = some ((if P then 1 else 0), M') ∧ (P → mPar (rdNow M') (setN v (up v.2.2.2 i n))) ∧ kZ M M' := by
  rcases hx with ⟨rfl, rfl, e⟩ | ⟨rfl, rfl, e⟩ | ⟨rfl, rfl, e⟩ | ⟨rfl, rfl, e⟩ | ⟨rfl, rfl, e⟩
  · refine ⟨si M 139 (11 + 5) (iz n), ?_, fun _ => hm.num hv (by omega), kZ.fld (by omega)⟩
    unfold f_X9_comesNumber
    rw [if_pos (by decide), if_pos (by rw [e]; trivial)]; rfl
  · have ho : f_X9_isIn (iz n) (10 : Int32) (60 : Int32) = _ := m_isIn (z := n) (lo := 10) (hi := 60) (by omega) (by omega) (by omega) (by omega) (by omega) (by omega)
    refine ⟨si M 139 (11 + 0) (iz n), ?_, fun _ => hm.num hv (by omega), kZ.fld (by omega)⟩
    unfold f_X9_comesNumber
    rw [if_neg (by decide), if_pos (by decide), nmq_q, ho, b_s1, g_t (zb_if _)]
    by_cases q : 10 ≤ n ∧ n ≤ 60
    · rw [if_pos q, if_pos (by rw [e]; exact q)]
    · rw [if_neg q, if_neg (by rw [e]; exact q)]
  · have j : ((2 : Int32) < iz n) ↔ 2 < n := iz_lt (a := 2) (b := n) (by omega) (by omega) (by omega) (by omega)
    refine ⟨si M 139 (11 + 7) (iz n), ?_, fun _ => hm.num hv (by omega), kZ.fld (by omega)⟩
    unfold f_X9_comesNumber
    iterate 4 rw [if_neg (by decide)]
    rw [nmq_q]
    by_cases q : n ≤ 2
    · rw [if_neg (fun t => by have := j.mp t; omega), if_pos (by rw [e]; exact q)]
    · rw [if_pos (j.mpr (by omega)), if_neg (by rw [e]; exact q)]
  · refine ⟨si M 139 (11 + 6) (iz n), ?_, fun _ => hm.num hv (by omega), kZ.fld (by omega)⟩
    unfold f_X9_comesNumber
    iterate 2 rw [if_neg (by decide)]
    rw [if_pos (by decide), if_pos (by rw [e]; trivial)]; rfl
  · have j : ((40 : Int32) < iz n) ↔ 40 < n := iz_lt (a := 40) (b := n) (by omega) (by omega) (by omega) (by omega)
    refine ⟨si M 139 (11 + 4) (iz n), ?_, fun _ => hm.num hv (by omega), kZ.fld (by omega)⟩
    unfold f_X9_comesNumber
    iterate 3 rw [if_neg (by decide)]
    rw [if_pos (by decide), nmq_q]
    by_cases q : n ≤ 40
    · rw [if_neg (fun t => by have := j.mp t; omega), if_pos (by rw [e]; exact q)]
    · rw [if_pos (j.mpr (by omega)), if_neg (by rw [e]; exact q)]
theorem m_tell {ls : List Nat} (hl : okSh ls) {v : PV} (hv : okN v) {i s : Nat} (hi : i < 49) (hok : (pst ls s).1 = true) {M : Mem} (hs : mSg M ls) (hr : recS M ls i s) (hm : mPar (rdNow M) v) :
    ∃ M', f_X9_comesTold (iz (i : Int)) M = some ((if (tell ls v s).isSome = true then 1 else 0), M') ∧ (∀ v', tell ls v s = some v' → mPar (rdNow M') v') ∧ kZ M M' := by
  obtain ⟨o1, o2, o3, o4, -, -⟩ := pst_ok hok
  obtain ⟨q1, q2, q3, q4⟩ := hr
  have hcl : (iz (i : Int) : Int32).toNatClampNeg = i := clN (by omega)
  have i0 : (3 : Int32) * iz (i : Int) = iz ((3 * i : Nat) : Int) := by rw [show (3 : Int32) = iz (3 : Int) from rfl, iz_mul]; congr 1
  have i1 : iz ((3 * i : Nat) : Int) + (1 : Int32) = iz ((3 * i + 1 : Nat) : Int) := iz_s _
  have i2 : iz ((3 * i : Nat) : Int) + (2 : Int32) = iz ((3 * i + 2 : Nat) : Int) := by rw [show (2 : Int32) = iz (2 : Int) from rfl, iz_add]; congr 1
  have c0 : (iz ((3 * i : Nat) : Int) : Int32).toNatClampNeg = 3 * i := clN (by omega)
  have c1 : (iz ((3 * i + 1 : Nat) : Int) : Int32).toNatClampNeg = 3 * i + 1 := clN (by omega)
  have c2 : (iz ((3 * i + 2 : Nat) : Int) : Int32).toNatClampNeg = 3 * i + 2 := clN (by omega)
  have hst : ∀ x : Int, sg ls s = x → f_X9_comesTold (iz (i : Int)) M = (if iz x = (103 : Int32) then (gq (inB (iz ((3 * i : Nat) : Int)) 147) (gq (inB (iz ((3 * i : Nat) : Int) + (1 : Int32)) 147) (gq (inB (iz ((3 * i : Nat) : Int) + (2 : Int32)) 147) (bq2 (f_X9_comesGlue (gi M 159 ((iz ((3 * i : Nat) : Int) : Int32).toNatClampNeg)) (gi M 159 (((iz ((3 * i : Nat) : Int) + (1 : Int32)) : Int32).toNatClampNeg)) (gi M 159 (((iz ((3 * i : Nat) : Int) + (2 : Int32)) : Int32).toNatClampNeg)) M) (fun (x8 : Int32) (M9 : Mem) => gq (zB x8) (some (x8, M9))))))) else if iz x = (107 : Int32) then (gq (inB (iz ((3 * i : Nat) : Int)) 147) (gq (inB (iz ((3 * i : Nat) : Int) + (1 : Int32)) 147) (bq2 (f_X9_comesKind (gi M 159 ((iz ((3 * i : Nat) : Int) : Int32).toNatClampNeg)) (gi M 159 (((iz ((3 * i : Nat) : Int) + (1 : Int32)) : Int32).toNatClampNeg)) M) (fun (x15 : Int32) (M16 : Mem) => gq (zB x15) (some (x15, M16)))))) else if iz x = (110 : Int32) then (bq2 (f_X9_comesForced M) (fun (x20 : Int32) (M21 : Mem) => gq (zB x20) (some (x20, M21)))) else if iz x = (112 : Int32) then (gq (inB (iz ((3 * i : Nat) : Int)) 147) (gq (inB (iz ((3 * i : Nat) : Int) + (1 : Int32)) 147) (bq2 (f_X9_comesPatternTold (iz (i : Int)) (gi M 159 ((iz ((3 * i : Nat) : Int) : Int32).toNatClampNeg)) (gi M 159 (((iz ((3 * i : Nat) : Int) + (1 : Int32)) : Int32).toNatClampNeg)) M) (fun (x27 : Int32) (M28 : Mem) => gq (zB x27) (some (x27, M28)))))) else if iz x = (119 : Int32) then (bq2 (f_X9_comesWord (iz (i : Int)) M) (fun (x32 : Int32) (M33 : Mem) => gq (zB x32) (some (x32, M33)))) else (gq (inB (iz (i : Int)) 49) (gq (inB (iz ((3 * i : Nat) : Int)) 147) (bq2 (f_X9_comesNumber (gi M 157 ((iz (i : Int) : Int32).toNatClampNeg)) (gi M 159 ((iz ((3 * i : Nat) : Int) : Int32).toNatClampNeg)) M) (fun (x38 : Int32) (M39 : Mem) => gq (zB x38) (some (x38, M39))))))) := fun x hx => by
    unfold f_X9_comesTold
    rw [i0, nmq_q, g_t (inB_n hi (by omega)), nmq_q]
    have : gi M 157 ((iz (i : Int) : Int32).toNatClampNeg) = iz x := by rw [hcl, q1, hx]
    rw [this]
  have hdr : ∀ x D, sg ls s = x → lmx x = 0 → (dbv x).toNat = D → drun ls D (s + 1) = D := fun x D hx h0 hD => by
    rw [hx] at o2
    rw [rdR_0 h0 hD] at o2
    exact of_decide_eq_true o2
  have hd2 : drun ls 2 (s + 1) = 2 → 0 ≤ dval ls 2 (s + 1) 0 ∧ dval ls 2 (s + 1) 0 ≤ 99 := fun d => dval2 (by have := drun_dig 2 _ d 0 (by omega); exact this) (drun_dig 2 _ d 1 (by omega))
  -- one number
  have hnum : ∀ (x n : Int) (k : Nat) (P : Prop) [Decidable P] (w : PV), sg ls s = x → w = setN v (up v.2.2.2 k n) → gi M 159 (3 * i) = iz n → 0 ≤ n ∧ n ≤ 99 → ((x = 104 ∧ k = 5 ∧ P = True) ∨ (x = 108 ∧ k = 0 ∧ P = (10 ≤ n ∧ n ≤ 60)) ∨ (x = 109 ∧ k = 7 ∧ P = (n ≤ 2)) ∨ (x = 111 ∧ k = 6 ∧ P = True) ∨ (x = 116 ∧ k = 4 ∧ P = (n ≤ 40))) → (tell ls v s = if P then some w else none) → ∃ M', f_X9_comesTold (iz (i : Int)) M = some ((if (tell ls v s).isSome = true then 1 else 0), M') ∧ (∀ v', tell ls v s = some v' → mPar (rdNow M') v') ∧ kZ M M' := by
    intro x n k P _ w hx hw h159 hn hc ht
    have hx' : x = 104 ∨ x = 108 ∨ x = 109 ∨ x = 111 ∨ x = 116 := by
      rcases hc with h | h | h | h | h
      · exact Or.inl h.1
      · exact Or.inr (Or.inl h.1)
      · exact Or.inr (Or.inr (Or.inl h.1))
      · exact Or.inr (Or.inr (Or.inr (Or.inl h.1)))
      · exact Or.inr (Or.inr (Or.inr (Or.inr h.1)))
    have hne : ¬ iz x = (103 : Int32) ∧ ¬ iz x = (107 : Int32) ∧ ¬ iz x = (110 : Int32) ∧ ¬ iz x = (112 : Int32) ∧ ¬ iz x = (119 : Int32) := by
      rcases hx' with h | h | h | h | h <;> subst h <;> decide
    rw [hst x hx, if_neg hne.1, if_neg hne.2.1, if_neg hne.2.2.1, if_neg hne.2.2.2.1, if_neg hne.2.2.2.2, g_t (inB_n hi (by omega)), g_t (inB_n (by omega) (by omega)), hcl, c0, q1, hx, h159]
    have := m_fin (m_tNumber hv.1 (P := P) hn hc hm) (v0 := tell ls v s) (by rw [ht, hw])
    exact this
  rcases dbv_iff.mp o1 with e | e | e | e | e | e | e | e | e | e
  · -- w
    rw [e] at q3
    obtain ⟨a1, a2⟩ := q3 (by decide)
    rw [hst 119 e]
    iterate 4 rw [if_neg (by decide)]
    rw [if_pos (by decide)]
    refine m_fin (m_tWord hl hv.1 (p := s + 1) hi hs a1 a2 hm) ?_
    unfold tell
    rw [e]; rfl
  · -- n
    rw [hst 110 e]
    iterate 2 rw [if_neg (by decide)]
    rw [if_pos (by decide)]
    obtain ⟨M', f1, f2, f4⟩ := m_tForced hv.1 hm
    have et : tell ls v s = (match v.1[v.1.length - 1]? with | none => none | some w => some (turnW v.1 (v.1.length - 1) w, v.2)) := by unfold tell; rw [e]; rfl
    rw [f1, b_s2, et]
    cases hw : v.1[v.1.length - 1]? with
    | none =>
      have : v.1.length = 0 := by
        have := List.getElem?_eq_none_iff.mp hw
        omega
      rw [if_pos this, g_t (Or.inl rfl)]
      exact ⟨M', rfl, (fun v' h => by cases h), f4⟩
    | some w =>
      have : ¬ v.1.length = 0 := by
        have := (List.getElem?_eq_some_iff.mp hw).1
        omega
      rw [if_neg this, g_t (Or.inr rfl)]
      exact ⟨M', rfl, (fun v' h => by cases h; exact f2 w hw), f4⟩
  · -- p
    have hr : lrun ls 3 (s + 1) ≠ 0 ∧ drun ls 2 (s + 1 + lrun ls 3 (s + 1)) = 2 := by
      rw [e] at o2
      unfold rdR at o2
      by_cases q : lmx 112 ≠ 0 ∧ lrun ls (lmx 112) (s + 1) = 0
      · rw [if_pos q] at o2; cases o2
      · rw [if_neg q] at o2
        exact ⟨fun h => q ⟨by decide, h⟩, of_decide_eq_true o2⟩
    have x1 := dval1 (ls := ls) (q := s + 1 + lrun ls 3 (s + 1)) (by have := drun_dig 2 _ hr.2 0 (by omega); exact this)
    have x2 := dval1 (ls := ls) (q := s + 1 + lrun ls 3 (s + 1) + 1) (drun_dig 2 _ hr.2 1 (by omega))
    rw [e] at q3 q4
    obtain ⟨a1, a2⟩ := q3 (by decide)
    have n0 : gi M 159 (3 * i) = iz (dval ls 1 (s + 1 + lrun ls 3 (s + 1)) 0) := q4 0 (by decide)
    have n1 : gi M 159 (3 * i + 1) = iz (dval ls 1 (s + 1 + lrun ls 3 (s + 1) + 1) 0) := q4 1 (by decide)
    rw [hst 112 e]
    iterate 3 rw [if_neg (by decide)]
    rw [if_pos (by decide), g_t (inB_n (by omega) (by omega)), i1, g_t (inB_n (by omega) (by omega)), c0, c1, n0, n1]
    have et : tell ls v s = (if dval ls 1 (s + 1 + lrun ls 3 (s + 1)) 0 ≤ (lrun ls 3 (s + 1) : Int) ∧ 1 ≤ dval ls 1 (s + 1 + lrun ls 3 (s + 1) + 1) 0 ∧ ixF (patIs (lts ls (lrun ls 3 (s + 1)) (s + 1)) (dval ls 1 (s + 1 + lrun ls 3 (s + 1)) 0).toNat) v.2.1 < 8 then some (v.1, putP v.2.1 (ixF (patIs (lts ls (lrun ls 3 (s + 1)) (s + 1)) (dval ls 1 (s + 1 + lrun ls 3 (s + 1)) 0).toNat) v.2.1) (lts ls (lrun ls 3 (s + 1)) (s + 1), (dval ls 1 (s + 1 + lrun ls 3 (s + 1)) 0).toNat, (dval ls 1 (s + 1 + lrun ls 3 (s + 1) + 1) 0).toNat), v.2.2) else none) := by unfold tell; rw [e]; rfl
    rw [et]
    generalize dval ls 1 (s + 1 + lrun ls 3 (s + 1)) 0 = x at x1 ⊢
    generalize dval ls 1 (s + 1 + lrun ls 3 (s + 1) + 1) 0 = y at x2 ⊢
    obtain ⟨X, rfl⟩ : ∃ X : Nat, x = (X : Int) := ⟨x.toNat, by omega⟩
    obtain ⟨Y, rfl⟩ : ∃ Y : Nat, y = (Y : Int) := ⟨y.toNat, by omega⟩
    rw [Int.toNat_natCast, Int.toNat_natCast]
    exact m_fin (m_tPattern hl hv.1 (p := s + 1) hi (by omega) (by omega) hs a1 a2 hm) rfl
  · -- l
    have hd := hd2 (hdr 108 2 e rfl rfl)
    rw [e] at q4
    refine hnum 108 (dval ls 2 (s + 1) 0) 0 (10 ≤ dval ls 2 (s + 1) 0 ∧ dval ls 2 (s + 1) 0 ≤ 60) _ e rfl (q4 0 (by decide)) hd (Or.inr (Or.inl ⟨rfl, rfl, rfl⟩)) ?_
    unfold tell
    rw [e]; rfl
  · -- g
    have d := hdr 103 3 e rfl rfl
    have x1 := dval1 (ls := ls) (q := s + 1) (by have := drun_dig 3 _ d 0 (by omega); exact this)
    have x3 := dval1 (ls := ls) (q := s + 3) (drun_dig 3 _ d 2 (by omega))
    rw [e] at q4
    have n0 : gi M 159 (3 * i) = iz (dval ls 1 (s + 1) 0) := q4 0 (by decide)
    have n1 : gi M 159 (3 * i + 1) = iz (dval ls 1 (s + 2) 0) := q4 1 (by decide)
    have n2 : gi M 159 (3 * i + 2) = iz (dval ls 1 (s + 3) 0) := q4 2 (by decide)
    rw [hst 103 e, if_pos (by decide), g_t (inB_n (by omega) (by omega)), i1, i2, g_t (inB_n (by omega) (by omega)), g_t (inB_n (by omega) (by omega)), c0, c1, c2, n0, n1, n2]
    refine m_fin (m_tGlue hv x1 x3 hm) ?_
    unfold tell
    rw [e]; rfl
  · -- t
    have hd := hd2 (hdr 116 2 e rfl rfl)
    rw [e] at q4
    refine hnum 116 (dval ls 2 (s + 1) 0) 4 (dval ls 2 (s + 1) 0 ≤ 40) _ e rfl (q4 0 (by decide)) hd (Or.inr (Or.inr (Or.inr (Or.inr ⟨rfl, rfl, rfl⟩)))) ?_
    unfold tell
    rw [e]; rfl
  · -- h
    have hd := hd2 (hdr 104 2 e rfl rfl)
    rw [e] at q4
    refine hnum 104 (dval ls 2 (s + 1) 0) 5 True _ e rfl (q4 0 (by decide)) hd (Or.inl ⟨rfl, rfl, rfl⟩) ?_
    unfold tell
    rw [e]; rfl
  · -- o
    have d := hdr 111 1 e rfl rfl
    have x1 := dval1 (ls := ls) (q := s + 1) (by have := drun_dig 1 _ d 0 (by omega); exact this)
    rw [e] at q4
    refine hnum 111 (dval ls 1 (s + 1) 0) 6 True _ e rfl (q4 0 (by decide)) ⟨x1.1, by omega⟩ (Or.inr (Or.inr (Or.inr (Or.inl ⟨rfl, rfl, rfl⟩)))) ?_
    unfold tell
    rw [e]; rfl
  · -- m
    have d := hdr 109 1 e rfl rfl
    have x1 := dval1 (ls := ls) (q := s + 1) (by have := drun_dig 1 _ d 0 (by omega); exact this)
    rw [e] at q4
    refine hnum 109 (dval ls 1 (s + 1) 0) 7 (dval ls 1 (s + 1) 0 ≤ 2) _ e rfl (q4 0 (by decide)) ⟨x1.1, by omega⟩ (Or.inr (Or.inr (Or.inl ⟨rfl, rfl, rfl⟩))) ?_
    unfold tell
    rw [e]; rfl
  · -- k
    have d := hdr 107 2 e rfl rfl
    have x1 := dval1 (ls := ls) (q := s + 1) (by have := drun_dig 2 _ d 0 (by omega); exact this)
    rw [e] at q4
    have n0 : gi M 159 (3 * i) = iz (dval ls 1 (s + 1) 0) := q4 0 (by decide)
    have n1 : gi M 159 (3 * i + 1) = iz (dval ls 1 (s + 2) 0) := q4 1 (by decide)
    rw [hst 107 e, if_neg (by decide), if_pos (by decide), g_t (inB_n (by omega) (by omega)), i1, g_t (inB_n (by omega) (by omega)), c0, c1, n0, n1]
    refine m_fin (m_tKind hv x1 hm) ?_
    unfold tell
    rw [e]; rfl
