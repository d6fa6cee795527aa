/-! the reference's second pass -/
theorem par_fuel {ls : List Nat} : ∀ d p, ls.length ≤ p + d → par ls (d + 1) p = par ls d p
  | 0, p, h => by
    show (if ls.length ≤ p then _ else _) = _
    rw [if_pos (by omega)]; rfl
  | d + 1, p, h => by
    have e1 : par ls (d + 1 + 1) p = (if ls.length ≤ p then ([], none) else if (pst ls p).1 = true then (p :: (par ls (d + 1) (pst ls p).2).1, (par ls (d + 1) (pst ls p).2).2) else ([], some (pst ls p).2)) := rfl
    have e2 : par ls (d + 1) p = (if ls.length ≤ p then ([], none) else if (pst ls p).1 = true then (p :: (par ls d (pst ls p).2).1, (par ls d (pst ls p).2).2) else ([], some (pst ls p).2)) := rfl
    rw [e1, e2]
    by_cases q : (pst ls p).1 = true
    · have := pst_ok q
      rw [par_fuel d (pst ls p).2 (by omega)]
    · rw [if_neg q, if_neg q]
theorem par0_96 {ls : List Nat} (hl : okSh ls) (hn : (par0 ls).2 = none) : par0 ls = par ls 96 0 := by
  have h96 := hl.1
  unfold par0 at hn ⊢
  by_cases q : (pst ls 0).1 = true
  · have := pst_ok q
    have e : par ls 96 0 = (if ls.length ≤ 0 then ([], none) else if (pst ls 0).1 = true then (0 :: (par ls 95 (pst ls 0).2).1, (par ls 95 (pst ls 0).2).2) else ([], some (pst ls 0).2)) := rfl
    rw [e, if_pos q, if_neg (by omega), if_pos q, par_fuel 94 _ (by omega)]
  · rw [if_neg q] at hn; cases hn
theorem par_good {ls : List Nat} : ∀ d p, p ≤ ls.length → (∀ s ∈ (par ls d p).1, (pst ls s).1 = true ∧ s ≤ ls.length) ∧ 2 * (par ls d p).1.length + p ≤ ls.length
  | 0, p, h => ⟨(fun s hs => by cases hs), by show 2 * 0 + p ≤ _; omega⟩
  | d + 1, p, h => by
    have e2 : par ls (d + 1) p = (if ls.length ≤ p then ([], none) else if (pst ls p).1 = true then (p :: (par ls d (pst ls p).2).1, (par ls d (pst ls p).2).2) else ([], some (pst ls p).2)) := rfl
    rw [e2]
    by_cases q0 : ls.length ≤ p
    · rw [if_pos q0]; exact ⟨(fun s hs => by cases hs), by show 2 * 0 + p ≤ _; omega⟩
    rw [if_neg q0]
    by_cases q : (pst ls p).1 = true
    · have ho := pst_ok q
      have ih := par_good (ls := ls) d (pst ls p).2 ho.2.2.2.2.2
      rw [if_pos q]
      refine ⟨fun s hs => ?_, ?_⟩
      · have hs : s ∈ p :: (par ls d (pst ls p).2).1 := hs
        rcases List.mem_cons.mp hs with r | r
        · rw [r]; exact ⟨q, h⟩
        · exact ih.1 s r
      · show 2 * (p :: (par ls d (pst ls p).2).1).length + p ≤ _
        rw [List.length_cons]; omega
    · rw [if_neg q]; exact ⟨(fun s hs => by cases hs), by show 2 * 0 + p ≤ _; omega⟩
theorem m_p2L {ls : List Nat} (hl : okSh ls) {S : List Nat} (hSl : S.length ≤ 48) (hSg : ∀ s ∈ S, (pst ls s).1 = true ∧ s ≤ ls.length) {rd0 : Nat → Int32} : ∀ (rest : List Nat) (f k : Nat) (v : PV) (M : Mem), S.drop k = rest → k + rest.length = S.length → rest.length < f → okN v → mPar (rdNow M) v → mSg M ls → recsM M ls S → gi M 139 38 = iz (S.length : Int) → (∀ o, o < 292 → gi M 163 (295 + o) = rd0 o) →
    ∃ M', (match (tellL ls rest v).2 with
      | none => lq2 f_X9_sheet_L86 f (iz (k : Int)) M = some (iz (S.length : Int), M') ∧ mPar (rdNow M') (tellL ls rest v).1 ∧ gi M' 139 46 = 0 ∧ okN (tellL ls rest v).1
      | some s => lq2 f_X9_sheet_L86 f (iz (k : Int)) M = some (iz (-2000 - (s : Int)), M') ∧ (∀ o, o < 292 → rdNow M' o = rd0 o) ∧ gi M' 139 46 = gi M 139 46) ∧ sameOn (fun k => k < 139 ∨ k = 140 ∨ (149 ≤ k ∧ k ≠ 162)) M M' ∧ ∀ j, j < 9 ∨ (21 ≤ j ∧ j < 43) ∨ j = 45 ∨ 47 ≤ j → gi M' 139 j = gi M 139 j := by
  have h96 := hl.1
  intro rest
  induction rest with
  | nil =>
    intro f k v M e0 e1 e2 hv hm hs hr h38 hsv
    obtain ⟨f, rfl⟩ : ∃ g, f = g + 1 := ⟨f - 1, by have : ([] : List Nat).length < f := e2; simp at this; omega⟩
    have e1 : k = S.length := by simpa using e1
    have ss : sameOn (fun k => k ≠ 139) M (si M 139 46 (0 : Int32)) := sameOn.si (by omega)
    refine ⟨si M 139 46 (0 : Int32), ⟨?_, ?_, ?_, hv⟩, ss.mono (fun a ha => by omega), fun j hj => by rw [gi_si, if_neg (by omega)]⟩
    · rw [lq2_s]
      generalize lq2 f_X9_sheet_L86 f = K
      unfold f_X9_sheet_L86
      rw [h38, if_pos (le_cnt (by omega) (by omega)), nmq_q, gi_si, if_neg (by omega), h38]
    · exact hm.congr hv.1 (rdNow.congr (ss.mono (fun a ha => by omega)) (fun j q1 q2 => by rw [gi_si, if_neg (by omega)]))
    · rw [gi_si, if_pos ⟨rfl, rfl⟩]
  | cons s rest ih =>
    intro f k v M e0 e1 e2 hv hm hs hr h38 hsv
    obtain ⟨f, rfl⟩ : ∃ g, f = g + 1 := ⟨f - 1, by omega⟩
    have e1' : k + (rest.length + 1) = S.length := e1
    have e2' : rest.length + 1 < f + 1 := e2
    have hk : S[k]? = some s := by
      have h := congrArg (fun l : List Nat => l[0]?) e0
      have h : (S.drop k)[0]? = some s := h
      rw [List.getElem?_drop, Nat.add_zero] at h; exact h
    have hd : S.drop (k + 1) = rest := by
      have h := congrArg (fun l : List Nat => l.drop 1) e0
      have h : (S.drop k).drop 1 = rest := h
      rw [List.drop_drop] at h; exact h
    obtain ⟨g1, g2⟩ := hSg s (List.mem_of_getElem? hk)
    have hrec := hr k s hk
    obtain ⟨M1, t1, t2, t3⟩ := m_tell hl hv (i := k) (by omega) g1 hs hrec hm
    have hng : ¬ iz (S.length : Int) ≤ iz (k : Int) := nle_cnt (by omega) (by omega)
    cases ht : tell ls v s with
    | none =>
      have eT : tellL ls (s :: rest) v = (v, some s) := by
        show (match tell ls v s with | none => (v, some s) | some v' => tellL ls rest v') = _
        rw [ht]
      rw [ht] at t1
      obtain ⟨M2, f1, f2, -, f3, -, f5⟩ := m_fetch (M := M1) (w := 1) (by omega)
      have f1 : f_X9_passesAll (1 : Int32) (0 : Int32) M1 = some M2 := f1
      have h158 : gi M2 158 k = iz (s : Int) := by rw [(f5 158 (by omega)).1, (t3.1 158 (by omega)).1]; exact hrec.2.1
      rw [eT]
      refine ⟨M2, ⟨?_, fun o ho => ?_, ?_⟩, (t3.1.mono (fun a ha => by omega)).tr (f5.mono (fun a ha => by omega)), fun j hj => by rw [f3 j (by omega), t3.2 j (by omega)]⟩
      · have hcl : (iz (k : Int) : Int32).toNatClampNeg = k := clN (by omega)
        rw [lq2_s]
        generalize lq2 f_X9_sheet_L86 f = K
        unfold f_X9_sheet_L86
        rw [h38, if_neg hng, t1, b_s2, if_pos (show (if (none : Option PV).isSome = true then (1 : Int32) else 0) = 0 from rfl), f1, b_s1, g_t (inB_n (by omega) (by omega)), hcl, h158, show (-2000 : Int32) = iz (-2000 : Int) by decide, iz_sub]
      · rw [f2 o ho, if_pos ho, (t3.1 163 (by omega)).1]; exact hsv o ho
      · rw [f3 46 (by omega), t3.2 46 (by omega)]
    | some v' =>
      have eT : tellL ls (s :: rest) v = tellL ls rest v' := by
        show (match tell ls v s with | none => (v, some s) | some v' => tellL ls rest v') = _
        rw [ht]
      rw [ht] at t1
      obtain ⟨M', r1, r2, r3⟩ := ih f (k + 1) v' M1 hd (by omega) (by omega) (tell_ok hv g1 ht) (t2 v' ht) (fun i a ha => by rw [(t3.1 156 (by omega)).1]; exact hs i a ha) (fun t u hu => (hr t u hu).same (t3.1.mono (fun a ha => by omega))) ((t3.2 38 (by omega)).trans h38) (fun o ho => by rw [(t3.1 163 (by omega)).1]; exact hsv o ho)
      have hstep : lq2 f_X9_sheet_L86 (f + 1) (iz (k : Int)) M = lq2 f_X9_sheet_L86 f (iz ((k + 1 : Nat) : Int)) M1 := by
        rw [lq2_s]
        generalize lq2 f_X9_sheet_L86 f = K
        unfold f_X9_sheet_L86
        rw [h38, if_neg hng, t1, b_s2, if_neg (show ¬ (if (some v').isSome = true then (1 : Int32) else 0) = 0 from (by show ¬ (1 : Int32) = 0; decide)), nmq_q, iz_s]
      rw [eT, hstep]
      refine ⟨M', ?_, (t3.1.mono (fun a ha => by omega)).tr r2, fun j hj => by rw [r3 j hj, t3.2 j (by omega)]⟩
      cases hh : (tellL ls rest v').2 with
      | none => rw [hh] at r1; exact r1
      | some u =>
        rw [hh] at r1
        exact ⟨r1.1, r1.2.1, by rw [r1.2.2, t3.2 46 (by omega)]⟩
