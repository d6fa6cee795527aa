/-! what is told keeps to the bounds; the class's second pass -/
theorem okN_set {v : PV} (h : okN v) {f : Nat → Int} (hf : okS f) (h0 : f 0 ≤ 60) : okN (setN v f) := ⟨⟨h.1.1, h.1.2.1, h.1.2.2.1, h.1.2.2.2.1, h.1.2.2.2.2.1, hf⟩, h0⟩
theorem okN_turn {v : PV} (h : okN v) {a : Nat} {q : Word} (ha : v.1[a]? = some q) : okN (turnW v.1 a q, v.2) := by
  have hq := h.1.2.1 q (List.mem_of_getElem? ha)
  refine ⟨⟨by show (turnW v.1 a q).length ≤ 16; unfold turnW; rw [List.length_set]; exact h.1.1, fun q' hq' => ?_, h.1.2.2⟩, h.2⟩
  rcases List.mem_or_eq_of_mem_set hq' with r | r
  · exact h.1.2.1 q' r
  · rw [r]; exact ⟨hq.1, by show 1 - q.2 ≤ 1; omega⟩
theorem tell_ok {ls : List Nat} {v v' : PV} {s : Nat} (h : okN v) (hok : (pst ls s).1 = true) (ht : tell ls v s = some v') : okN v' := by
  obtain ⟨o1, o2, -, -, -, -⟩ := pst_ok hok
  have hS := h.1.2.2.2.2.2
  obtain ⟨a0, a1, a2, a3, a4, a5, a6, a7, a8, a9⟩ := hS
  have h60 := h.2
  have hdr : ∀ x D, sg ls s = x → lmx x = 0 → (dbv x).toNat = D → drun ls D (s + 1) = D := fun x D hx h0 hD => by
    rw [hx] at o2
    rw [rdR_0 h0 hD] at o2
    exact of_decide_eq_true o2
  have hd2 : drun ls 2 (s + 1) = 2 → 0 ≤ dval ls 2 (s + 1) 0 ∧ dval ls 2 (s + 1) 0 ≤ 99 := fun d => dval2 (by have := drun_dig 2 _ d 0 (by omega); exact this) (drun_dig 2 _ d 1 (by omega))
  rcases dbv_iff.mp o1 with e | e | e | e | e | e | e | e | e | e
  · -- w
    have et : tell ls v s = (if v.1.length < 16 then some (v.1 ++ [(lts ls (lrun ls 12 (s + 1)) (s + 1), 0)], v.2) else none) := by unfold tell; rw [e]; rfl
    rw [et] at ht
    by_cases q : v.1.length < 16
    · rw [if_pos q] at ht; cases ht
      refine h.addW q ⟨?_, ?_, lts_lt 12 (s + 1)⟩
      · rw [lts_len]
        rw [e] at o2
        unfold rdR at o2
        by_cases q2 : lmx 119 ≠ 0 ∧ lrun ls (lmx 119) (s + 1) = 0
        · rw [if_pos q2] at o2; cases o2
        · have : ¬ lrun ls 12 (s + 1) = 0 := fun h => q2 ⟨by decide, h⟩
          omega
      · rw [lts_len]; exact lrun_le 12 (s + 1)
    · rw [if_neg q] at ht; cases ht
  · -- n
    have et : tell ls v s = (match v.1[v.1.length - 1]? with | none => none | some w => some (turnW v.1 (v.1.length - 1) w, v.2)) := by unfold tell; rw [e]; rfl
    rw [et] at ht
    cases hw : v.1[v.1.length - 1]? with
    | none => rw [hw] at ht; cases ht
    | some w => rw [hw] at ht; cases ht; exact okN_turn h hw
  · -- p
    have hr : lrun ls 3 (s + 1) ≠ 0 ∧ drun ls 2 (s + 1 + lrun ls 3 (s + 1)) = 2 := by
      rw [e] at o2
      unfold rdR at o2
      by_cases q : lmx 112 ≠ 0 ∧ lrun ls (lmx 112) (s + 1) = 0
      · rw [if_pos q] at o2; cases o2
      · rw [if_neg q] at o2
        exact ⟨fun h => q ⟨by decide, h⟩, of_decide_eq_true o2⟩
    have hd1 := dval1 (ls := ls) (q := s + 1 + lrun ls 3 (s + 1)) (by have := drun_dig 2 _ hr.2 0 (by omega); exact this)
    have hd2 := dval1 (ls := ls) (q := s + 1 + lrun ls 3 (s + 1) + 1) (drun_dig 2 _ hr.2 1 (by omega))
    have hle := lrun_le (ls := ls) 3 (s + 1)
    have hlt := lts_lt (ls := ls) 3 (s + 1)
    have hll := lts_len (ls := ls) (lrun ls 3 (s + 1)) (s + 1)
    have et : tell ls v s = (if dval ls 1 (s + 1 + lrun ls 3 (s + 1)) 0 ≤ (lrun ls 3 (s + 1) : Int) ∧ 1 ≤ dval ls 1 (s + 1 + lrun ls 3 (s + 1) + 1) 0 ∧ ixF (patIs (lts ls (lrun ls 3 (s + 1)) (s + 1)) (dval ls 1 (s + 1 + lrun ls 3 (s + 1)) 0).toNat) v.2.1 < 8 then some (v.1, putP v.2.1 (ixF (patIs (lts ls (lrun ls 3 (s + 1)) (s + 1)) (dval ls 1 (s + 1 + lrun ls 3 (s + 1)) 0).toNat) v.2.1) (lts ls (lrun ls 3 (s + 1)) (s + 1), (dval ls 1 (s + 1 + lrun ls 3 (s + 1)) 0).toNat, (dval ls 1 (s + 1 + lrun ls 3 (s + 1) + 1) 0).toNat), v.2.2) else none) := by unfold tell; rw [e]; rfl
    rw [et] at ht
    by_cases q : dval ls 1 (s + 1 + lrun ls 3 (s + 1)) 0 ≤ (lrun ls 3 (s + 1) : Int) ∧ 1 ≤ dval ls 1 (s + 1 + lrun ls 3 (s + 1) + 1) 0 ∧ ixF (patIs (lts ls (lrun ls 3 (s + 1)) (s + 1)) (dval ls 1 (s + 1 + lrun ls 3 (s + 1)) 0).toNat) v.2.1 < 8
    · rw [if_pos q] at ht; cases ht
      refine okN_putP h (ixF_le _ _) q.2.2 ⟨⟨by rw [hll]; omega, by rw [hll]; exact hle, hlt⟩, ?_, ?_, ?_⟩
      · show (dval ls 1 (s + 1 + lrun ls 3 (s + 1)) 0).toNat ≤ (lts ls (lrun ls 3 (s + 1)) (s + 1)).length
        rw [hll]; omega
      · show 1 ≤ (dval ls 1 (s + 1 + lrun ls 3 (s + 1) + 1) 0).toNat
        omega
      · show (dval ls 1 (s + 1 + lrun ls 3 (s + 1) + 1) 0).toNat ≤ 9
        omega
    · rw [if_neg q] at ht; cases ht
  · -- l
    have hd := hd2 (hdr 108 2 e rfl rfl)
    have et : tell ls v s = (if 10 ≤ dval ls 2 (s + 1) 0 ∧ dval ls 2 (s + 1) 0 ≤ 60 then some (setN v (up v.2.2.2 0 (dval ls 2 (s + 1) 0))) else none) := by unfold tell; rw [e]; rfl
    rw [et] at ht
    by_cases q : 10 ≤ dval ls 2 (s + 1) 0 ∧ dval ls 2 (s + 1) 0 ≤ 60
    · rw [if_pos q] at ht; cases ht
      exact okN_set h ⟨⟨q.1, by show dval ls 2 (s + 1) 0 ≤ 80; omega⟩, a1, a2, a3, a4, a5, a6, a7, a8, a9⟩ q.2
    · rw [if_neg q] at ht; cases ht
  · -- g
    have d := hdr 103 3 e rfl rfl
    have x1 := dval1 (ls := ls) (q := s + 1) (by have := drun_dig 3 _ d 0 (by omega); exact this)
    have x2 := dval1 (ls := ls) (q := s + 2) (drun_dig 3 _ d 1 (by omega))
    have x3 := dval1 (ls := ls) (q := s + 3) (drun_dig 3 _ d 2 (by omega))
    have et : tell ls v s = (if 2 ≤ dval ls 1 (s + 1) 0 ∧ dval ls 1 (s + 3) 0 ≤ dval ls 1 (s + 1) 0 then some (setN v (up (up (up v.2.2.2 1 (dval ls 1 (s + 1) 0)) 2 (dval ls 1 (s + 2) 0)) 3 (dval ls 1 (s + 3) 0))) else none) := by unfold tell; rw [e]; rfl
    rw [et] at ht
    by_cases q : 2 ≤ dval ls 1 (s + 1) 0 ∧ dval ls 1 (s + 3) 0 ≤ dval ls 1 (s + 1) 0
    · rw [if_pos q] at ht; cases ht
      exact okN_set h ⟨a0, ⟨q.1, x1.2⟩, x2, ⟨x3.1, q.2⟩, a4, a5, a6, a7, a8, a9⟩ h60
    · rw [if_neg q] at ht; cases ht
  · -- t
    have hd := hd2 (hdr 116 2 e rfl rfl)
    have et : tell ls v s = (if dval ls 2 (s + 1) 0 ≤ 40 then some (setN v (up v.2.2.2 4 (dval ls 2 (s + 1) 0))) else none) := by unfold tell; rw [e]; rfl
    rw [et] at ht
    by_cases q : dval ls 2 (s + 1) 0 ≤ 40
    · rw [if_pos q] at ht; cases ht
      exact okN_set h ⟨a0, a1, a2, a3, ⟨hd.1, q⟩, a5, a6, a7, a8, a9⟩ h60
    · rw [if_neg q] at ht; cases ht
  · -- h
    have hd := hd2 (hdr 104 2 e rfl rfl)
    have et : tell ls v s = some (setN v (up v.2.2.2 5 (dval ls 2 (s + 1) 0))) := by unfold tell; rw [e]; rfl
    rw [et] at ht; cases ht
    exact okN_set h ⟨a0, a1, a2, a3, a4, hd, a6, a7, a8, a9⟩ h60
  · -- o
    have d := hdr 111 1 e rfl rfl
    have x1 := dval1 (ls := ls) (q := s + 1) (by have := drun_dig 1 _ d 0 (by omega); exact this)
    have et : tell ls v s = some (setN v (up v.2.2.2 6 (dval ls 1 (s + 1) 0))) := by unfold tell; rw [e]; rfl
    rw [et] at ht; cases ht
    exact okN_set h ⟨a0, a1, a2, a3, a4, a5, x1, a7, a8, a9⟩ h60
  · -- m
    have d := hdr 109 1 e rfl rfl
    have x1 := dval1 (ls := ls) (q := s + 1) (by have := drun_dig 1 _ d 0 (by omega); exact this)
    have et : tell ls v s = (if dval ls 1 (s + 1) 0 ≤ 2 then some (setN v (up v.2.2.2 7 (dval ls 1 (s + 1) 0))) else none) := by unfold tell; rw [e]; rfl
    rw [et] at ht
    by_cases q : dval ls 1 (s + 1) 0 ≤ 2
    · rw [if_pos q] at ht; cases ht
      exact okN_set h ⟨a0, a1, a2, a3, a4, a5, a6, ⟨x1.1, q⟩, a8, a9⟩ h60
    · rw [if_neg q] at ht; cases ht
  · -- k
    have d := hdr 107 2 e rfl rfl
    have x1 := dval1 (ls := ls) (q := s + 1) (by have := drun_dig 2 _ d 0 (by omega); exact this)
    have x2 := dval1 (ls := ls) (q := s + 2) (drun_dig 2 _ d 1 (by omega))
    have et : tell ls v s = (if dval ls 1 (s + 1) 0 ≤ 5 then some (setN v (up (up v.2.2.2 8 (dval ls 1 (s + 1) 0)) 9 (dval ls 1 (s + 2) 0))) else none) := by unfold tell; rw [e]; rfl
    rw [et] at ht
    by_cases q : dval ls 1 (s + 1) 0 ≤ 5
    · rw [if_pos q] at ht; cases ht
      exact okN_set h ⟨a0, a1, a2, a3, a4, a5, a6, a7, ⟨x1.1, q⟩, x2⟩ h60
    · rw [if_neg q] at ht; cases ht
def tellL (ls : List Nat) : List Nat → PV → PV × Option Nat
  | [], v => (v, none)
  | s :: S, v => match tell ls v s with
    | none => (v, some s)
    | some v' => tellL ls S v'
def kY (M M' : Mem) : Prop := sameOn (fun k => (k < 12 ∨ 23 ≤ k) ∧ k ≠ 124) M M' ∧ gi M' 124 1 = gi M 124 1
theorem kY.rf {M : Mem} : kY M M := ⟨sameOn.rf, rfl⟩
theorem kY.tr {M M' M'' : Mem} (h : kY M M') (h' : kY M' M'') : kY M M'' := ⟨h.1.tr h'.1, h'.2.trans h.2⟩
theorem kY.sh {M M' : Mem} {ls : List Nat} (h : kY M M') (hs : cSh M ls) : cSh M' ls := ⟨h.2.trans hs.1, fun i a ha => by rw [(h.1 125 (by omega)).1]; exact hs.2 i a ha⟩
theorem kW.toY {M M' : Mem} (h : kW M M') : kY M M' := ⟨h.1, h.2 1 (by omega)⟩
theorem c_p2L {ls : List Nat} (hl : okSh ls) : ∀ (d f x p c : Nat) (v : PV) (M : Mem), ls.length ≤ p + d → x + d ≤ 96 → p ≤ ls.length → c ≤ x → d < f → okN v → cSh M ls → gi M 124 3 = iz (p : Int) → gi M 124 2 = iz (c : Int) → cPar M 12 v → (par ls d p).2 = none →
    ∃ M', lq2 (f_X5_tellTo_L12 12) f (iz (x : Int)) M = some (iz (erV (tellL ls (par ls d p).1 v).2), M') ∧ ((tellL ls (par ls d p).1 v).2 = none → cPar M' 12 (tellL ls (par ls d p).1 v).1 ∧ gi M' 124 2 = iz ((c + (par ls d p).1.length : Nat) : Int)) ∧ kY M M' := by
  have h96 := hl.1
  intro d
  induction d with
  | zero =>
    intro f x p c v M e1 e2 e3 e4 e5 hv hs hp h2 hc hn
    obtain ⟨f, rfl⟩ : ∃ g, f = g + 1 := ⟨f - 1, by omega⟩
    refine ⟨M, ?_, fun _ => ⟨hc, h2⟩, kY.rf⟩
    rw [lq2_s]
    generalize lq2 (f_X5_tellTo_L12 12) f = K
    unfold f_X5_tellTo_L12
    rw [hs.1, hp, if_pos (le_cnt (n := ls.length) (i := p) (by omega) (by omega))]
    by_cases q : 96 ≤ x
    · rw [if_pos (show (96 : Int32) ≤ iz (x : Int) from le_cnt (n := 96) q (by omega))]; rfl
    · rw [if_neg (show ¬ (96 : Int32) ≤ iz (x : Int) from nle_cnt (n := 96) (by omega) (by omega))]; rfl
  | succ d ih =>
    intro f x p c v M e1 e2 e3 e4 e5 hv hs hp h2 hc hn
    obtain ⟨f, rfl⟩ : ∃ g, f = g + 1 := ⟨f - 1, by omega⟩
    have eP : par ls (d + 1) p = (if ls.length ≤ p then ([], none) else if (pst ls p).1 = true then (p :: (par ls d (pst ls p).2).1, (par ls d (pst ls p).2).2) else ([], some (pst ls p).2)) := rfl
    rw [eP] at hn ⊢
    have hx96 : ¬ (96 : Int32) ≤ iz (x : Int) := nle_cnt (n := 96) (by omega) (by omega)
    by_cases q : ls.length ≤ p
    · rw [if_pos q]
      refine ⟨M, ?_, fun _ => ⟨hc, h2⟩, kY.rf⟩
      rw [lq2_s]
      generalize lq2 (f_X5_tellTo_L12 12) f = K
      unfold f_X5_tellTo_L12
      rw [if_neg hx96, hs.1, hp, if_pos (le_cnt (n := ls.length) (i := p) (by omega) (by omega))]; rfl
    rw [if_neg q] at hn ⊢
    by_cases q1 : (pst ls p).1 = true
    case neg => rw [if_neg q1] at hn; cases hn
    rw [if_pos q1] at hn ⊢
    obtain ⟨o1, o2, o3, o4, o5, o6⟩ := pst_ok q1
    obtain ⟨M1, r1, r2, r3⟩ := c_tell hl hv.1 (s := p) (by omega) q1 hs hp hc
    have hnp : ¬ iz (ls.length : Int) ≤ iz (p : Int) := nle_cnt (by omega) (by omega)
    cases ht : tell ls v p with
    | none =>
      have eT : tellL ls (p :: (par ls d (pst ls p).2).1) v = (v, some p) := by
        show (match tell ls v p with | none => (v, some p) | some v' => tellL ls (par ls d (pst ls p).2).1 v') = _
        rw [ht]
      rw [ht] at r1
      show ∃ M', _ = some (iz (erV (tellL ls (p :: (par ls d (pst ls p).2).1) v).2), M') ∧ ((tellL ls (p :: (par ls d (pst ls p).2).1) v).2 = none → _) ∧ _
      rw [eT]
      refine ⟨M1, ?_, (fun h => by cases h), r3.toY⟩
      rw [lq2_s]
      generalize lq2 (f_X5_tellTo_L12 12) f = K
      unfold f_X5_tellTo_L12
      rw [if_neg hx96, hs.1, hp, if_neg hnp, nmq_q, r1, b_s2, if_pos (show (if (none : Option PV).isSome = true then (1 : Int32) else 0) = 0 from rfl)]; rfl
    | some v' =>
      have eT : tellL ls (p :: (par ls d (pst ls p).2).1) v = tellL ls (par ls d (pst ls p).2).1 v' := by
        show (match tell ls v p with | none => (v, some p) | some v' => tellL ls (par ls d (pst ls p).2).1 v') = _
        rw [ht]
      obtain ⟨u1, u2⟩ := r2 v' ht
      rw [ht] at r1
      obtain ⟨M2, e2'⟩ : ∃ M2, M2 = si M1 124 3 (gi M1 124 3 + 1) := ⟨_, rfl⟩
      obtain ⟨M3, e3'⟩ : ∃ M3, M3 = si M2 124 2 (gi M2 124 2 + 1) := ⟨_, rfl⟩
      have s2 : sameOn (fun k => k ≠ 124) M1 M2 := by rw [e2']; exact sameOn.si (by omega)
      have s3 : sameOn (fun k => k ≠ 124) M2 M3 := by rw [e3']; exact sameOn.si (by omega)
      have p3 : gi M3 124 3 = iz (((pst ls p).2 : Nat) : Int) := by
        rw [e3', gi_si, if_neg (by omega), e2', gi_si, if_pos ⟨rfl, rfl⟩, u2, iz_s, show (pst ls p).2 - 1 + 1 = (pst ls p).2 by omega]
      have c3 : gi M3 124 2 = iz ((c + 1 : Nat) : Int) := by
        rw [e3', gi_si, if_pos ⟨rfl, rfl⟩, e2', gi_si, if_neg (by omega), r3.2 2 (by omega), h2, iz_s]
      have ky : kY M M3 := r3.toY.tr ⟨(s2.mono (fun a ha => by omega)).tr (s3.mono (fun a ha => by omega)), by rw [e3', gi_si, if_neg (by omega), e2', gi_si, if_neg (by omega)]⟩
      have hc3 : cPar M3 12 v' := (u1.same (s2.mono (fun a ha => by omega))).same (s3.mono (fun a ha => by omega))
      obtain ⟨M', t1, t2, t3⟩ := ih f (x + 1) (pst ls p).2 (c + 1) v' M3 (by omega) (by omega) o6 (by omega) (by omega) (tell_ok hv q1 ht) (ky.sh hs) p3 c3 hc3 hn
      show ∃ M', _ = some (iz (erV (tellL ls (p :: (par ls d (pst ls p).2).1) v).2), M') ∧ ((tellL ls (p :: (par ls d (pst ls p).2).1) v).2 = none → cPar M' 12 (tellL ls (p :: (par ls d (pst ls p).2).1) v).1 ∧ gi M' 124 2 = iz ((c + (p :: (par ls d (pst ls p).2).1).length : Nat) : Int)) ∧ _
      rw [eT]
      refine ⟨M', ?_, fun h => ⟨(t2 h).1, by rw [(t2 h).2, List.length_cons]; congr 2; omega⟩, ky.tr t3⟩
      rw [lq2_s]
      generalize lq2 (f_X5_tellTo_L12 12) f = K at t1 ⊢
      unfold f_X5_tellTo_L12
      rw [if_neg hx96, hs.1, hp, if_neg hnp, nmq_q, r1, b_s2, if_neg (show ¬ (if (some v').isSome = true then (1 : Int32) else 0) = 0 from (by show ¬ (1 : Int32) = 0; decide)), nmq_q, ← e2', nmq_q, ← e3', nmq_q, iz_s, t1]
theorem par0_eq {ls : List Nat} (hn : (par0 ls).2 = none) : par0 ls = par ls 95 0 := by
  unfold par0 at hn ⊢
  by_cases q : (pst ls 0).1 = true
  · have := pst_ok q
    show _ = (if ls.length ≤ 0 then ([], none) else if (pst ls 0).1 = true then (0 :: (par ls 94 (pst ls 0).2).1, (par ls 94 (pst ls 0).2).2) else ([], some (pst ls 0).2))
    rw [if_pos q, if_neg (by omega)]
  · rw [if_neg q] at hn; cases hn
