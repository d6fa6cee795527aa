/-! a statement told by the class, and all of them -/
theorem c_fin {E : Option (Int32 × Mem)} {M M3 : Mem} {v0 : Option PV} {P : Prop} [Decidable P] {w : PV} {e : Nat} (k3 : kW M M3) (h : ∃ M', E = some ((if P then 1 else 0), M') ∧ (P → cPar M' 12 w) ∧ gi M' 124 3 = iz (e : Int) ∧ kW M3 M') (ht : v0 = if P then some w else none) : ∃ M', bq2 E (fun (x : Int32) (M' : Mem) => gq (zB x) (some (x, M'))) = some ((if v0.isSome = true then 1 else 0), M') ∧ (∀ v', v0 = some v' → cPar M' 12 v' ∧ gi M' 124 3 = iz (e : Int)) ∧ kW M M' := by
  obtain ⟨M', h1, h2, h3, h4⟩ := h
  refine ⟨M', ?_, fun v' hv' => ?_, k3.tr h4⟩
  · rw [h1, b_s2, g_t (zb_if P), ht]
    by_cases q : P
    · rw [if_pos q, if_pos q]; rfl
    · rw [if_neg q, if_neg q]; rfl
  · rw [ht] at hv'
    by_cases q : P
    · rw [if_pos q] at hv'; cases hv'; exact ⟨h2 q, h3⟩
    · rw [if_neg q] at hv'; cases hv'
theorem c_outs {x : Int} (h : 0 ≤ x ∧ x ≤ 99) {a b : Int} (ha : 0 ≤ a ∧ a ≤ 99) (hb : 0 ≤ b ∧ b ≤ 99) : ∃ r : Int32, f_X8_outside (iz x) (iz a) (iz b) = some r ∧ (r = 0 ↔ a ≤ x ∧ x ≤ b) := by
  unfold f_X8_outside
  have j1 : (iz a ≤ iz x) ↔ a ≤ x := iz_le (a := a) (b := x) (by omega) (by omega) (by omega) (by omega)
  have j2 : (iz x ≤ iz b) ↔ x ≤ b := iz_le (a := x) (b := b) (by omega) (by omega) (by omega) (by omega)
  by_cases q1 : a ≤ x
  · rw [if_pos (j1.mpr q1)]
    by_cases q2 : x ≤ b
    · rw [if_pos (j2.mpr q2)]; exact ⟨0, rfl, fun _ => ⟨q1, q2⟩, fun _ => rfl⟩
    · rw [if_neg (fun e => q2 (j2.mp e))]; exact ⟨-6, rfl, fun e => absurd e (by decide), fun e => absurd e.2 q2⟩
  · rw [if_neg (fun e => q1 (j1.mp e))]; exact ⟨-4, rfl, fun e => absurd e (by decide), fun e => absurd e.1 q1⟩
/-- one number told -/
theorem c_tNumber {ls : List Nat} (hl : okSh ls) {v : PV} {x : Int} {p D i : Nat} {P : Prop} [Decidable P] (hx : (x = 104 ∧ D = 2 ∧ i = 5 ∧ P = True) ∨ (x = 108 ∧ D = 2 ∧ i = 0 ∧ P = (10 ≤ dval ls 2 p 0 ∧ dval ls 2 p 0 ≤ 60)) ∨ (x = 109 ∧ D = 1 ∧ i = 7 ∧ P = (dval ls 1 p 0 ≤ 2)) ∨ (x = 111 ∧ D = 1 ∧ i = 6 ∧ P = True) ∨ (x = 116 ∧ D = 2 ∧ i = 4 ∧ P = (dval ls 2 p 0 ≤ 40))) (hp2 : p ≤ 200) (hd : 0 ≤ dval ls D p 0 ∧ dval ls D p 0 ≤ 99) {M : Mem} (hs : cSh M ls) (hp : gi M 124 3 = iz (p : Int)) (hc : cPar M 12 v) :
    ∃ M', f_X5_tellNumber (iz x) 12 M = some ((if P then 1 else 0), M') ∧ (P → cPar M' 12 (setN v (up v.2.2.2 i (dval ls D p 0)))) ∧ gi M' 124 3 = iz ((p + D : Nat) : Int) ∧ kW M M' := by
  obtain ⟨M1, r1, u1, k1⟩ := c_number hl (n := D) (by omega) (p := p) (by omega) hs hp
  have hc1 : cPar M1 12 v := k1.par (by omega) hc
  have hset : ∀ j, kW M (si M1 12 (3 + j) (iz (dval ls D p 0))) ∧ gi (si M1 12 (3 + j) (iz (dval ls D p 0))) 124 3 = iz ((p + D : Nat) : Int) := fun j => ⟨k1.toW.tr (kW.of (sameOn.si (by omega))), by rw [gi_si, if_neg (by omega)]; exact u1⟩
  rcases hx with ⟨rfl, rfl, rfl, e⟩ | ⟨rfl, rfl, rfl, e⟩ | ⟨rfl, rfl, rfl, e⟩ | ⟨rfl, rfl, rfl, e⟩ | ⟨rfl, rfl, rfl, e⟩
  · have hdb : f_X5_digitsBehind (iz 104) = some (2 : Int32) := c_db (x := 104) (by omega) (by omega)
    have r1 : f_X5_number (2 : Int32) M = _ := r1
    refine ⟨si M1 12 (3 + 5) (iz (dval ls 2 p 0)), ?_, fun _ => hc1.num, (hset 5).2, (hset 5).1⟩
    unfold f_X5_tellNumber
    rw [hdb, b_s1, r1, b_s2, if_pos (by decide), if_pos (by rw [e]; trivial)]; rfl
  · have hdb : f_X5_digitsBehind (iz 108) = some (2 : Int32) := c_db (x := 108) (by omega) (by omega)
    have r1 : f_X5_number (2 : Int32) M = _ := r1
    obtain ⟨r, ho, hr⟩ := c_outs hd (a := 10) (b := 60) (by omega) (by omega)
    have ho : f_X8_outside (iz (dval ls 2 p 0)) (10 : Int32) (60 : Int32) = some r := ho
    refine ⟨si M1 12 (3 + 0) (iz (dval ls 2 p 0)), ?_, fun _ => hc1.num, (hset 0).2, (hset 0).1⟩
    unfold f_X5_tellNumber
    rw [hdb, b_s1, r1, b_s2]
    iterate 4 rw [if_neg (by decide)]
    rw [if_pos (by decide), nmq_q, ho, b_s1]
    by_cases q : 10 ≤ dval ls 2 p 0 ∧ dval ls 2 p 0 ≤ 60
    · rw [if_pos (hr.mpr q), if_pos (by rw [e]; exact q)]
    · rw [if_neg (fun h => q (hr.mp h)), if_neg (by rw [e]; exact q)]
  · have hdb : f_X5_digitsBehind (iz 109) = some (1 : Int32) := c_db (x := 109) (by omega) (by omega)
    have r1 : f_X5_number (1 : Int32) M = _ := r1
    have ho : f_X8_isOther (iz (dval ls 1 p 0)) (3 : Int32) = _ := c_isOther (z := dval ls 1 p 0) (n := 3) (by omega) (by omega) (by omega) (by omega)
    refine ⟨si M1 12 (3 + 7) (iz (dval ls 1 p 0)), ?_, fun _ => hc1.num, (hset 7).2, (hset 7).1⟩
    unfold f_X5_tellNumber
    rw [hdb, b_s1, r1, b_s2]
    iterate 5 rw [if_neg (by decide)]
    rw [if_pos (by decide), nmq_q, ho, b_s1]
    by_cases q : dval ls 1 p 0 ≤ 2
    · rw [if_pos (show 0 ≤ dval ls 1 p 0 ∧ dval ls 1 p 0 < 3 by omega), if_pos rfl, if_pos (by rw [e]; exact q)]
    · rw [if_neg (show ¬ (0 ≤ dval ls 1 p 0 ∧ dval ls 1 p 0 < 3) by omega), if_neg (by decide), if_neg (by rw [e]; exact q)]
  · have hdb : f_X5_digitsBehind (iz 111) = some (1 : Int32) := c_db (x := 111) (by omega) (by omega)
    have r1 : f_X5_number (1 : Int32) M = _ := r1
    refine ⟨si M1 12 (3 + 6) (iz (dval ls 1 p 0)), ?_, fun _ => hc1.num, (hset 6).2, (hset 6).1⟩
    unfold f_X5_tellNumber
    rw [hdb, b_s1, r1, b_s2]
    iterate 7 rw [if_neg (by decide)]
    rw [if_pos (by decide), if_pos (by rw [e]; trivial)]; rfl
  · have hdb : f_X5_digitsBehind (iz 116) = some (2 : Int32) := c_db (x := 116) (by omega) (by omega)
    have r1 : f_X5_number (2 : Int32) M = _ := r1
    obtain ⟨r, ho, hr⟩ := c_outs hd (a := 0) (b := 40) (by omega) (by omega)
    have ho : f_X8_outside (iz (dval ls 2 p 0)) (0 : Int32) (40 : Int32) = some r := ho
    refine ⟨si M1 12 (3 + 4) (iz (dval ls 2 p 0)), ?_, fun _ => hc1.num, (hset 4).2, (hset 4).1⟩
    unfold f_X5_tellNumber
    rw [hdb, b_s1, r1, b_s2]
    iterate 12 rw [if_neg (by decide)]
    rw [if_pos (by decide), nmq_q, ho, b_s1]
    by_cases q : dval ls 2 p 0 ≤ 40
    · rw [if_pos (hr.mpr ⟨hd.1, q⟩), if_pos (by rw [e]; exact q)]
    · rw [if_neg (fun h => q (hr.mp h).2), if_neg (by rw [e]; exact q)]
theorem c_tell {ls : List Nat} (hl : okSh ls) {v : PV} (hv : okV v) {s : Nat} (hs2 : s ≤ 96) (hok : (pst ls s).1 = true) {M : Mem} (hs : cSh M ls) (hp : gi M 124 3 = iz (s : Int)) (hc : cPar M 12 v) :
    ∃ M', f_X5_tellStatement 12 M = some ((if (tell ls v s).isSome = true then 1 else 0), M') ∧ (∀ v', tell ls v s = some v' → cPar M' 12 v' ∧ gi M' 124 3 = iz (((pst ls s).2 - 1 : Nat) : Int)) ∧ kW M M' := by
  obtain ⟨o1, o2, o3, o4, -, -⟩ := pst_ok hok
  have hh := c_here hl hs hp (by omega)
  obtain ⟨M3, e3⟩ : ∃ M3, M3 = si M 124 3 (gi M 124 3 + 1) := ⟨_, rfl⟩
  have k3 : kC M M3 := by rw [e3]; exact kC.si
  have p3 : gi M3 124 3 = iz ((s + 1 : Nat) : Int) := by rw [e3, gi_si, if_pos ⟨rfl, rfl⟩, hp, iz_s]
  have hs3 := k3.sh hs
  have hc3 : cPar M3 12 v := k3.par (by omega) hc
  have e4 : (pst ls s).2 - 1 = (rdR ls (sg ls s) (s + 1)).2 := by omega
  rw [e4]
  have hst : ∀ x : Int, sg ls s = x → f_X5_tellStatement 12 M = (if iz x = (103 : Int32) then (bq2 (f_X5_tellGlue 12 M3) (fun (x5 : Int32) (M6 : Mem) => gq (zB x5) (some (x5, M6)))) else if iz x = (107 : Int32) then (bq2 (f_X5_tellKind 12 M3) (fun (x10 : Int32) (M11 : Mem) => gq (zB x10) (some (x10, M11)))) else if iz x = (110 : Int32) then (bq2 (f_X5_tellForced 14 M3) (fun (x15 : Int32) (M16 : Mem) => gq (zB x15) (some (x15, M16)))) else if iz x = (112 : Int32) then (bq2 (f_X5_tellPattern 18 M3) (fun (x20 : Int32) (M21 : Mem) => gq (zB x20) (some (x20, M21)))) else if iz x = (119 : Int32) then (bq2 (f_X5_tellWord 14 M3) (fun (x25 : Int32) (M26 : Mem) => gq (zB x25) (some (x25, M26)))) else (bq2 (f_X5_tellNumber (iz x) 12 M3) (fun (x29 : Int32) (M30 : Mem) => gq (zB x29) (some (x29, M30))))) := fun x hx => by
    unfold f_X5_tellStatement
    rw [hh, b_s1, nmq_q, ← e3, hx]
  have hdr : ∀ x D, sg ls s = x → lmx x = 0 → (dbv x).toNat = D → drun ls D (s + 1) = D ∧ (rdR ls (sg ls s) (s + 1)).2 = s + 1 + D := fun x D hx h0 hD => by
    rw [hx] at o2 ⊢
    rw [rdR_0 h0 hD] at o2 ⊢
    have := of_decide_eq_true o2
    exact ⟨this, by show s + 1 + drun ls D (s + 1) = _; rw [this]⟩
  rcases dbv_iff.mp o1 with e | e | e | e | e | e | e | e | e | e
  · -- w
    have er : (rdR ls (sg ls s) (s + 1)).2 = s + 1 + lrun ls 12 (s + 1) := by
      rw [e] at o2 ⊢
      unfold rdR at o2 ⊢
      by_cases q : lmx 119 ≠ 0 ∧ lrun ls (lmx 119) (s + 1) = 0
      · rw [if_pos q] at o2; cases o2
      · rw [if_neg q]; rfl
    rw [hst 119 e, er]
    iterate 4 rw [if_neg (by decide)]
    rw [if_pos (by decide)]
    refine c_fin k3.toW (c_tWord hl hv (p := s + 1) (by omega) hs3 p3 hc3) ?_
    unfold tell
    rw [e]; rfl
  · -- n
    obtain ⟨d1, d2⟩ := hdr 110 0 e rfl rfl
    rw [hst 110 e, d2]
    iterate 2 rw [if_neg (by decide)]
    rw [if_pos (by decide)]
    obtain ⟨M', f1, f2, f3, f4⟩ := c_tForced hv hc3
    have et : tell ls v s = (match v.1[v.1.length - 1]? with | none => none | some w => some (turnW v.1 (v.1.length - 1) w, v.2)) := by unfold tell; rw [e]; rfl
    have p4 : gi M' 124 3 = iz ((s + 1 + 0 : Nat) : Int) := by rw [f3]; exact p3
    rw [f1, b_s2, et]
    cases hw : v.1[v.1.length - 1]? with
    | none =>
      have : v.1.length = 0 := by
        have := List.getElem?_eq_none_iff.mp hw
        omega
      rw [if_pos this, g_t (Or.inl rfl)]
      exact ⟨M', rfl, (fun v' h => by cases h), k3.toW.tr f4⟩
    | some w =>
      have : ¬ v.1.length = 0 := by
        have := (List.getElem?_eq_some_iff.mp hw).1
        omega
      rw [if_neg this, g_t (Or.inr rfl)]
      exact ⟨M', rfl, (fun v' h => by cases h; exact ⟨f2 w hw, p4⟩), k3.toW.tr f4⟩
  · -- p
    have hr : lrun ls 3 (s + 1) ≠ 0 ∧ drun ls 2 (s + 1 + lrun ls 3 (s + 1)) = 2 ∧ (rdR ls (sg ls s) (s + 1)).2 = s + 1 + lrun ls 3 (s + 1) + 2 := by
      rw [e] at o2 ⊢
      unfold rdR at o2 ⊢
      by_cases q : lmx 112 ≠ 0 ∧ lrun ls (lmx 112) (s + 1) = 0
      · rw [if_pos q] at o2; cases o2
      · rw [if_neg q] at o2
        rw [if_neg q]
        have h2 : drun ls 2 (s + 1 + lrun ls 3 (s + 1)) = 2 := of_decide_eq_true o2
        refine ⟨fun h => q ⟨by decide, h⟩, h2, ?_⟩
        show s + 1 + lrun ls 3 (s + 1) + drun ls 2 (s + 1 + lrun ls 3 (s + 1)) = _
        rw [h2]
    obtain ⟨-, h2, er⟩ := hr
    rw [hst 112 e, er]
    iterate 3 rw [if_neg (by decide)]
    rw [if_pos (by decide)]
    refine c_fin k3.toW (c_tPattern hl hv (p := s + 1) (by omega) (by have := drun_dig 2 _ h2 0 (by omega); exact this) (drun_dig 2 _ h2 1 (by omega)) hs3 p3 hc3) ?_
    unfold tell
    rw [e]; rfl
  · -- l
    obtain ⟨d1, d2⟩ := hdr 108 2 e rfl rfl
    rw [hst 108 e, d2]
    iterate 5 rw [if_neg (by decide)]
    refine c_fin k3.toW (c_tNumber hl (p := s + 1) (D := 2) (i := 0) (P := 10 ≤ dval ls 2 (s + 1) 0 ∧ dval ls 2 (s + 1) 0 ≤ 60) (Or.inr (Or.inl ⟨rfl, rfl, rfl, rfl⟩)) (by omega) (dval2 (by have := drun_dig 2 _ d1 0 (by omega); exact this) (drun_dig 2 _ d1 1 (by omega))) hs3 p3 hc3) ?_
    unfold tell
    rw [e]; rfl
  · -- g
    obtain ⟨d1, d2⟩ := hdr 103 3 e rfl rfl
    rw [hst 103 e, d2, if_pos (by decide)]
    refine c_fin k3.toW (c_tGlue hl (p := s + 1) (by omega) (by have := drun_dig 3 _ d1 0 (by omega); exact this) (drun_dig 3 _ d1 1 (by omega)) (drun_dig 3 _ d1 2 (by omega)) hs3 p3 hc3) ?_
    unfold tell
    rw [e]; rfl
  · -- t
    obtain ⟨d1, d2⟩ := hdr 116 2 e rfl rfl
    rw [hst 116 e, d2]
    iterate 5 rw [if_neg (by decide)]
    refine c_fin k3.toW (c_tNumber hl (p := s + 1) (D := 2) (i := 4) (P := dval ls 2 (s + 1) 0 ≤ 40) (Or.inr (Or.inr (Or.inr (Or.inr ⟨rfl, rfl, rfl, rfl⟩)))) (by omega) (dval2 (by have := drun_dig 2 _ d1 0 (by omega); exact this) (drun_dig 2 _ d1 1 (by omega))) hs3 p3 hc3) ?_
    unfold tell
    rw [e]; rfl
  · -- h
    obtain ⟨d1, d2⟩ := hdr 104 2 e rfl rfl
    rw [hst 104 e, d2]
    iterate 5 rw [if_neg (by decide)]
    refine c_fin k3.toW (c_tNumber hl (p := s + 1) (D := 2) (i := 5) (P := True) (Or.inl ⟨rfl, rfl, rfl, rfl⟩) (by omega) (dval2 (by have := drun_dig 2 _ d1 0 (by omega); exact this) (drun_dig 2 _ d1 1 (by omega))) hs3 p3 hc3) ?_
    unfold tell
    rw [e]; rfl
  · -- o
    obtain ⟨d1, d2⟩ := hdr 111 1 e rfl rfl
    have hd := dval1 (ls := ls) (q := s + 1) (by have := drun_dig 1 _ d1 0 (by omega); exact this)
    rw [hst 111 e, d2]
    iterate 5 rw [if_neg (by decide)]
    refine c_fin k3.toW (c_tNumber hl (p := s + 1) (D := 1) (i := 6) (P := True) (Or.inr (Or.inr (Or.inr (Or.inl ⟨rfl, rfl, rfl, rfl⟩)))) (by omega) ⟨hd.1, by omega⟩ hs3 p3 hc3) ?_
    unfold tell
    rw [e]; rfl
  · -- m
    obtain ⟨d1, d2⟩ := hdr 109 1 e rfl rfl
    have hd := dval1 (ls := ls) (q := s + 1) (by have := drun_dig 1 _ d1 0 (by omega); exact this)
    rw [hst 109 e, d2]
    iterate 5 rw [if_neg (by decide)]
    refine c_fin k3.toW (c_tNumber hl (p := s + 1) (D := 1) (i := 7) (P := dval ls 1 (s + 1) 0 ≤ 2) (Or.inr (Or.inr (Or.inl ⟨rfl, rfl, rfl, rfl⟩))) (by omega) ⟨hd.1, by omega⟩ hs3 p3 hc3) ?_
    unfold tell
    rw [e]; rfl
  · -- k
    obtain ⟨d1, d2⟩ := hdr 107 2 e rfl rfl
    rw [hst 107 e, d2]
    iterate 1 rw [if_neg (by decide)]
    rw [if_pos (by decide)]
    refine c_fin k3.toW (c_tKind hl (p := s + 1) (by omega) (by have := drun_dig 2 _ d1 0 (by omega); exact this) (drun_dig 2 _ d1 1 (by omega)) hs3 p3 hc3) ?_
    unfold tell
    rw [e]; rfl
