/-! one line looked at -/
theorem bgL_at {F : List Fr} {s : Nat → Int} {i a : Nat} (h : (bgL F s)[i]? = some a) : (bst F s F.length).isSome = true ∧ (bgs F s F.length)[i]? = some a := by
  unfold bgL at h
  by_cases q : (bst F s F.length).isSome = true
  · rw [if_pos q] at h; exact ⟨q, h⟩
  · rw [if_neg q] at h; simp at h
theorem c_showLine {v : PV} (hv : okV v) {M : Mem} (hc : cPar M 1 v) {z : Int} (z1 : -2147483648 ≤ z) (z2 : z < 2147483648) :
    ∃ M', f_X8_showLine (iz z) M = some ((if 0 ≤ z ∧ z < ((bgL (frs v 0 v.1) v.2.2.2).length : Int) then (1 : Int32) else 0), M') ∧ keepC M M' ∧ cMs M' v.2.2.2 ∧ ∀ (i a : Nat), z = (i : Int) → (bgL (frs v 0 v.1) v.2.2.2)[i]? = some a → cLn M' (frs v 0 v.1) v.2.2.2 a (nxt (bgs (frs v 0 v.1) v.2.2.2 (frs v 0 v.1).length) (frs v 0 v.1).length i) := by
  have hk : okFs (frs v 0 v.1) := frs_okFs hv (fun q hq => hq) (Nat.le_refl _)
  have hs := hv.2.2.2.2.2
  obtain ⟨M1, r1, r2, r3⟩ := c_cut (p := 1) (Or.inl rfl) hv hc (g := 0) (by omega)
  rw [leftW_0] at r2
  obtain ⟨M4, q1, q2, q3, q4⟩ := c_solve (Or.inl rfl) hv (par_cut (Or.inl rfl) hc r3) hk r2
  have hF4 : cFr M4 (frs v 0 v.1) := r2.same (q4.mono (fun a ha => by omega))
  have hL := q2.L
  have hlen := (bgL_len hk (s := v.2.2.2)).1
  have k4 : keepC M M4 := keepC.of ((r3.mono (fun a ha => by omega)).tr (q4.mono (fun a ha => by omega)))
  have r1' : f_X0_cut 1 (0 : Int32) M = some M1 := r1
  by_cases c1 : z < 0
  · refine ⟨M4, ?_, k4, q3, fun i a h _ => by omega⟩
    unfold f_X8_showLine
    rw [r1', b_s1, q1, b_s2, if_pos (show iz z < 0 from lt_iz (b := 0) z1 z2 (by omega) (by omega) c1), if_neg (by omega)]
  · by_cases c2 : z < ((bgL (frs v 0 v.1) v.2.2.2).length : Int)
    · obtain ⟨i, rfl⟩ : ∃ i : Nat, z = (i : Int) := ⟨z.toNat, by omega⟩
      have hi : i < (bgL (frs v 0 v.1) v.2.2.2).length := by omega
      obtain ⟨h1, h2⟩ := bgL_at (List.getElem?_eq_getElem hi)
      obtain ⟨M', s1, s2, s3, s4⟩ := c_show hk hs hF4 q3 q2 h1 h2
      refine ⟨M', ?_, k4.tr (keepC.of (s4.mono (fun a ha => by omega))), s3, fun j a hj ha => ?_⟩
      · unfold f_X8_showLine
        rw [r1', b_s1, q1, b_s2, if_neg (not_neg i (by omega)), hL.1, if_pos ((iz_cnt (by omega) (by omega)).1.mpr hi), s1, b_s1, if_pos ⟨by omega, c2⟩]
      · have hji : j = i := by omega
        subst hji
        rw [List.getElem?_eq_getElem hi] at ha
        cases ha
        exact s2
    · refine ⟨M4, ?_, k4, q3, fun i a h ha => ?_⟩
      · unfold f_X8_showLine
        rw [r1', b_s1, q1, b_s2, if_neg (show ¬ iz z < 0 from nlt_iz (b := 0) z1 z2 (by omega) (by omega) c1), hL.1, if_neg (nlt_iz z1 z2 (by omega) (by omega) c2), if_neg (fun t => c2 t.2)]
      · have := (List.getElem?_eq_some_iff.mp ha).1
        omega
theorem m_isLine {v : PV} (hv : okV v) {M : Mem} (hm : mPar (rdNow M) v) {z : Int} (z1 : -2147483648 ≤ z) (z2 : z < 2147483648) :
    ∃ M', f_X9_isLine (iz z) M = some ((if 0 ≤ z ∧ z < ((bgL (frs v 0 v.1) v.2.2.2).length : Int) then (1 : Int32) else 0), M') ∧ kL M M' ∧ mSol M' (frs v 0 v.1) v.2.2.2 ∧ mFr M' (frs v 0 v.1) ∧ mPar (rdNow M') v := by
  have hk : okFs (frs v 0 v.1) := frs_okFs hv (fun q hq => hq) (Nat.le_refl _)
  obtain ⟨M1, f1, f2, f3, f4⟩ := m_find hv hm
  have hb := cntV_b hk (s := v.2.2.2)
  have hL := bgL_len hk (s := v.2.2.2)
  refine ⟨M1, ?_, f4, f2, f3, f4.par hv hm⟩
  have ein : f_X9_isIn (iz z) (0 : Int32) (iz (cntV (frs v 0 v.1) v.2.2.2) - (1 : Int32)) = some (if 0 ≤ z ∧ z < ((bgL (frs v 0 v.1) v.2.2.2).length : Int) then (1 : Int32) else 0) := by
    have e : iz (cntV (frs v 0 v.1) v.2.2.2) - (1 : Int32) = iz (cntV (frs v 0 v.1) v.2.2.2 - 1) := by rw [show (1 : Int32) = iz (1 : Int) from rfl, iz_sub]
    have h := m_isIn (z := z) (lo := 0) (hi := cntV (frs v 0 v.1) v.2.2.2 - 1) z1 z2 (by omega) (by omega) (by omega) (by omega)
    rw [e]
    refine h.trans ?_
    by_cases q : (bst (frs v 0 v.1) v.2.2.2 (frs v 0 v.1).length).isSome = true
    · have hc := hL.2 q
      by_cases c : 0 ≤ z ∧ z < ((bgL (frs v 0 v.1) v.2.2.2).length : Int)
      · rw [if_pos (by omega), if_pos c]
      · rw [if_neg (by omega), if_neg c]
    · have hn : bst (frs v 0 v.1) v.2.2.2 (frs v 0 v.1).length = none := by
        cases hb' : bst (frs v 0 v.1) v.2.2.2 (frs v 0 v.1).length with
        | none => rfl
        | some x => rw [hb'] at q; exact absurd rfl q
      have hc := hb.2.2.mpr hn
      have hl0 : (bgL (frs v 0 v.1) v.2.2.2).length = 0 := by unfold bgL; rw [if_neg q]; rfl
      rw [if_neg (by omega), if_neg (by omega)]
  unfold f_X9_isLine
  rw [f1, b_s2, ein, b_s1]
  refine g_t ?_
  by_cases c : 0 ≤ z ∧ z < ((bgL (frs v 0 v.1) v.2.2.2).length : Int)
  · rw [if_pos c]; right; rfl
  · rw [if_neg c]; left; rfl
/-- where the reference has the line -/
theorem mSol.at' {M : Mem} {F : List Fr} (hk : okFs F) {s : Nat → Int} (h : mSol M F s) {i a : Nat} (hi : (bgL F s)[i]? = some a) : i < 160 ∧ gi M 155 i = iz (a : Int) ∧ gi M 155 (i + 1) = iz (nxt (bgs F s F.length) F.length i : Int) := by
  obtain ⟨h1, h2⟩ := bgL_at hi
  obtain ⟨_, b2, b3⟩ := h.2 h1
  have hil := (List.getElem?_eq_some_iff.mp h2).1
  have hl := hk.1
  have hbl := bgs_len (F := F) (s := s) F.length F.length (Nat.le_refl _) h1
  refine ⟨by omega, b3 i a h2, ?_⟩
  unfold nxt
  by_cases q : i + 1 < (bgs F s F.length).length
  · rw [List.getElem?_eq_getElem q, b3 (i + 1) _ (List.getElem?_eq_getElem q)]; rfl
  · have e : i + 1 = (bgs F s F.length).length := by omega
    rw [List.getElem?_eq_none (by omega), e, b2]; rfl
theorem line_ok {F : List Fr} {s : Nat → Int} {i a : Nat} (hi : (bgL F s)[i]? = some a) : a < nxt (bgs F s F.length) F.length i ∧ nxt (bgs F s F.length) F.length i ≤ F.length ∧ fitV F s a (nxt (bgs F s F.length) F.length i) = true := by
  obtain ⟨h1, h2⟩ := bgL_at hi
  obtain ⟨o1, o2, o3⟩ := bgs_ok h1 h2
  exact ⟨o1, o2, (okB_iff.mp o3).1⟩
/-- a question about one line: 0 where there is none -/
theorem op_one {M : Mem} (hI : Inv M) (p : Int32) {f g : Mem → Option (Int32 × Mem)} {cf mf : Mem → Option Int32} (hf : f = fun M => bq2 (f_X8_showLine p M) (fun (x1 : Int32) (M2 : Mem) => (if x1 = 0 then some ((0 : Int32), M2) else (bq1 (cf M2) (fun (x7 : Int32) => some (x7, M2))))))
    (hg' : g = fun M => bq2 (f_X9_isLine p M) (fun (x1 : Int32) (M2 : Mem) => (if x1 = 0 then some ((0 : Int32), M2) else (bq1 (mf M2) (fun (x7 : Int32) => some (x7, M2))))))
    (h : ∀ (F : List Fr) (v : PV) (i a b : Nat), okV v → okFs F → p = iz (i : Int) → i < 160 → a < b → b ≤ F.length → fitV F v.2.2.2 a b = true → ∃ r, (∀ M, cLn M F v.2.2.2 a b → cMs M v.2.2.2 → cf M = some r) ∧ (∀ M, mPar (rdNow M) v → mFr M F → gi M 155 i = iz (a : Int) → gi M 155 (i + 1) = iz (b : Int) → mf M = some r)) : both M f g := by
  have hI' := hI
  obtain ⟨now, img, st, ct, hist, ls, rw_, R, hg, hC, hM⟩ := hI
  obtain ⟨z, z1, z2, rfl⟩ := iz_ex p
  have hv := hg.1.1
  have hk : okFs (frs now 0 now.1) := frs_okFs hv (fun q hq => hq) (Nat.le_refl _)
  obtain ⟨Mc, c1, c2, c3, c4⟩ := c_showLine hv hC.1 z1 z2
  have hmm : ∀ M', sameOn (fun k => 139 ≤ k) M M' → ∃ M2, f_X9_isLine (iz z) M' = some ((if 0 ≤ z ∧ z < ((bgL (frs now 0 now.1) now.2.2.2).length : Int) then (1 : Int32) else 0), M2) ∧ kL M' M2 ∧ mSol M2 (frs now 0 now.1) now.2.2.2 ∧ mFr M2 (frs now 0 now.1) ∧ mPar (rdNow M2) now := fun M' hs' => m_isLine hv (hM.same hg hs').1 z1 z2
  by_cases q : 0 ≤ z ∧ z < ((bgL (frs now 0 now.1) now.2.2.2).length : Int)
  · obtain ⟨i, rfl⟩ : ∃ i : Nat, z = (i : Int) := ⟨z.toNat, by omega⟩
    have hi : i < (bgL (frs now 0 now.1) now.2.2.2).length := by omega
    obtain ⟨a, ha⟩ : ∃ a, (bgL (frs now 0 now.1) now.2.2.2)[i]? = some a := ⟨_, List.getElem?_eq_getElem hi⟩
    have hlen := (bgL_len hk (s := now.2.2.2)).1
    obtain ⟨o1, o2, o3⟩ := line_ok ha
    obtain ⟨r, hr1, hr2⟩ := h (frs now 0 now.1) now i a _ hv hk rfl (by omega) o1 o2 o3
    rw [if_pos q] at c1
    refine both_ask hI' (r := r) ⟨Mc, c2, ?_⟩ (fun M' hs' => ?_)
    · rw [hf]
      show bq2 (f_X8_showLine (iz (i : Int)) M) _ = _
      rw [c1, b_s2, if_neg (by decide), hr1 Mc (c4 i a rfl ha) c3, b_s1]
    · obtain ⟨M2, e1, e2, e3, e4, e5⟩ := hmm M' hs'
      rw [if_pos q] at e1
      obtain ⟨t1, t2, t3⟩ := e3.at' hk ha
      refine ⟨M2, e2.keep, ?_⟩
      rw [hg']
      show bq2 (f_X9_isLine (iz (i : Int)) M') _ = _
      rw [e1, b_s2, if_neg (by decide), hr2 M2 e5 e4 t2 t3, b_s1]
  · rw [if_neg q] at c1
    refine both_ask hI' (r := (0 : Int32)) ⟨Mc, c2, ?_⟩ (fun M' hs' => ?_)
    · rw [hf]
      show bq2 (f_X8_showLine (iz z) M) _ = _
      rw [c1, b_s2, if_pos rfl]
    · obtain ⟨M2, e1, e2, e3, e4, e5⟩ := hmm M' hs'
      rw [if_neg q] at e1
      refine ⟨M2, e2.keep, ?_⟩
      rw [hg']
      show bq2 (f_X9_isLine (iz z) M') _ = _
      rw [e1, b_s2, if_pos rfl]
theorem norm_of {x : UInt32} {k : Nat} (hk : 23 ≤ k) (h : 2 ^ k ≤ uz x) : 2 ^ 23 ≤ uz x := Nat.le_trans (Nat.pow_le_pow_right (by omega) hk) h
theorem rat_bits {F : List Fr} (h : okFs F) {s : Nat → Int} (hs : okS s) {i j : Nat} (hij : i < j) (hj : j ≤ F.length) (hf : fitV F s i j = true) : f_X8_bitsOf (ratV F s i j) = some (ratV F s i j).toInt32 := by
  have hne := rat_ne h hs hij hj
  obtain ⟨r1, r2, r3⟩ := rat_fit h hs hij hj hf
  rcases r3 with r3 | r3
  · rw [r3, c_bits0, bits_0]
  · by_cases q : 0 ≤ zv (ratV F s i j)
    · have e : unsV (ratV F s i j) = ratV F s i j := by unfold unsV; rw [if_pos q]
      rw [e] at r1 r3
      exact c_bitsP r1 (norm_of (by omega) r3)
    · have e : unsV (ratV F s i j) = FP.fneg (ratV F s i j) := by unfold unsV; rw [if_neg q]
      rw [e] at r1 r3
      exact c_bitsM hne (by omega) r1 (norm_of (by omega) r3)
theorem bad_0 : badV FP.fconst0 = FP.fconst0 := by
  unfold badV
  rw [uns_0]
  decide +kernel
theorem bad_bits {F : List Fr} (h : okFs F) {s : Nat → Int} (hs : okS s) {i j : Nat} (hij : i < j) (hj : j ≤ F.length) (hf : fitV F s i j = true) : f_X8_bitsOf (badV (ratV F s i j)) = some (badV (ratV F s i j)).toInt32 := by
  obtain ⟨r1, r2, r3⟩ := rat_fit h hs hij hj hf
  rcases r3 with r3 | r3
  · rw [r3, bad_0, c_bits0, bits_0]
  · have hb := bad_b r1 r2
    exact c_bitsP hb.2.2.1 (norm_of (by omega) (bad_g r1 r2 r3))
theorem op_ratio {M : Mem} (hI : Inv M) (p : Int32) : both M (f_X8_ratio p) (f_X9_ratio p) := by
  refine op_one hI p (cf := fun M2 => f_X8_bitsOf (gf M2 127 6)) (mf := fun M2 => bq1 (f_X9_ratioOfLine p M2) (fun x5 => f_Jxf58ca_floatToIntBits_5c35a x5)) rfl ?_ ?_
  · funext M'
    unfold f_X9_ratio
    congr 1
    funext x1 M2
    by_cases q : x1 = 0
    · rw [if_pos q, if_pos q]
    · rw [if_neg q, if_neg q]
      cases f_X9_ratioOfLine p M2 <;> rfl
  · intro F v i a b hv hk hp hi hab hb hf
    have hs := hv.2.2.2.2.2
    refine ⟨(ratV F v.2.2.2 a b).toInt32, fun M hL hm => ?_, fun M hm hF h1 h2 => ?_⟩
    · show f_X8_bitsOf (gf M 127 6) = _
      rw [(hL.2.2.2.2.2 hab).2.2.2]
      exact rat_bits hk hs hab hb hf
    · show bq1 (f_X9_ratioOfLine p M) _ = _
      unfold f_X9_ratioOfLine
      rw [hp, iz_s, g_t (inB_n (by omega) (by omega)), g_t (inB_n (by omega) (by omega)), clN (by omega), clN (by omega), h1, h2, hF.rat hv hm hk hab hb, b_s1, b_s1, m_bits (rat_ne hk hs hab hb)]
theorem op_badness {M : Mem} (hI : Inv M) (p : Int32) : both M (f_X8_badness p) (f_X9_badness p) := by
  refine op_one hI p (cf := fun M2 => bq1 (f_X2_badnessOfLine M2) (fun x5 => f_X8_bitsOf x5)) (mf := fun M2 => gq (inB p 162) (gq (inB (p + (1 : Int32)) 162) (bq1 (f_X9_badnessOf (gi M2 155 ((p : Int32).toNatClampNeg)) (gi M2 155 (((p + (1 : Int32)) : Int32).toNatClampNeg)) M2) (fun x7 => f_Jxf58ca_floatToIntBits_5c35a x7)))) ?_ ?_ ?_
  · funext M'
    unfold f_X8_badness
    congr 1
    funext x1 M2
    by_cases q : x1 = 0
    · rw [if_pos q, if_pos q]
    · rw [if_neg q, if_neg q]
      cases f_X2_badnessOfLine M2 <;> rfl
  · funext M'
    unfold f_X9_badness
    congr 1
    funext x1 M2
    by_cases q : x1 = 0
    · rw [if_pos q, if_pos q]
    · rw [if_neg q, if_neg q]
      unfold gq
      by_cases q2 : inB p 162
      · rw [if_pos q2, if_pos q2]
        by_cases q3 : inB (p + (1 : Int32)) 162
        · rw [if_pos q3, if_pos q3]
          cases f_X9_badnessOf (gi M2 155 ((p : Int32).toNatClampNeg)) (gi M2 155 (((p + (1 : Int32)) : Int32).toNatClampNeg)) M2 <;> rfl
        · rw [if_neg q3, if_neg q3]; rfl
      · rw [if_neg q2, if_neg q2]; rfl
  · intro F v i a b hv hk hp hi hab hb hf
    have hs := hv.2.2.2.2.2
    obtain ⟨r1, r2, r3⟩ := rat_fit hk hs hab hb hf
    have hnb : nn (badV (ratV F v.2.2.2 a b)) := (bad_b r1 r2).2.2.1
    refine ⟨(badV (ratV F v.2.2.2 a b)).toInt32, fun M hL hm => ?_, fun M hm hF h1 h2 => ?_⟩
    · show bq1 (f_X2_badnessOfLine M) _ = _
      rw [hL.bad hs hk hab hb hf, b_s1]
      exact bad_bits hk hs hab hb hf
    · show gq _ _ = _
      rw [hp, iz_s, g_t (inB_n (by omega) (by omega)), g_t (inB_n (by omega) (by omega)), clN (by omega), clN (by omega), h1, h2, hF.bad hv hm hk hab hb hf, b_s1, m_bits (nn_ne hnb)]
theorem op_demerits {M : Mem} (hI : Inv M) (p : Int32) : both M (f_X8_demerits p) (f_X9_demerits p) := by
  refine op_one hI p (cf := fun M2 => bq1 (f_X2_demeritsOfLine M2) (fun x5 => f_X8_bitsOf x5)) (mf := fun M2 => gq (inB p 162) (gq (inB (p + (1 : Int32)) 162) (bq1 (f_X9_demeritsOf (gi M2 155 ((p : Int32).toNatClampNeg)) (gi M2 155 (((p + (1 : Int32)) : Int32).toNatClampNeg)) M2) (fun x7 => f_Jxf58ca_floatToIntBits_5c35a x7)))) ?_ ?_ ?_
  · funext M'
    unfold f_X8_demerits
    congr 1
    funext x1 M2
    by_cases q : x1 = 0
    · rw [if_pos q, if_pos q]
    · rw [if_neg q, if_neg q]
      cases f_X2_demeritsOfLine M2 <;> rfl
  · funext M'
    unfold f_X9_demerits
    congr 1
    funext x1 M2
    by_cases q : x1 = 0
    · rw [if_pos q, if_pos q]
    · rw [if_neg q, if_neg q]
      unfold gq
      by_cases q2 : inB p 162
      · rw [if_pos q2, if_pos q2]
        by_cases q3 : inB (p + (1 : Int32)) 162
        · rw [if_pos q3, if_pos q3]
          cases f_X9_demeritsOf (gi M2 155 ((p : Int32).toNatClampNeg)) (gi M2 155 (((p + (1 : Int32)) : Int32).toNatClampNeg)) M2 <;> rfl
        · rw [if_neg q3, if_neg q3]; rfl
      · rw [if_neg q2, if_neg q2]; rfl
  · intro F v i a b hv hk hp hi hab hb hf
    have hs := hv.2.2.2.2.2
    obtain ⟨d1, d2, d3, -⟩ := dem_b hk hs hab hb hf
    refine ⟨(demV F v.2.2.2 a b).toInt32, fun M hL hm => ?_, fun M hm hF h1 h2 => ?_⟩
    · show bq1 (f_X2_demeritsOfLine M) _ = _
      rw [hL.dem hs hk hm hab hb hf, b_s1]
      exact c_bitsP d1 (norm_of (by omega) d3)
    · show gq _ _ = _
      rw [hp, iz_s, g_t (inB_n (by omega) (by omega)), g_t (inB_n (by omega) (by omega)), clN (by omega), clN (by omega), h1, h2, hF.dem hv hm hk hab hb hf, b_s1, m_bits (nn_ne d1)]
theorem op_lineOf {M : Mem} (hI : Inv M) (p p' : Int32) : both M (f_X8_lineOf p p') (f_X9_lineOf p p') := by
  have hI' := hI
  obtain ⟨now, img, st, ct, hist, ls, rw_, R, hg, hC, hM⟩ := hI
  obtain ⟨z, z1, z2, rfl⟩ := iz_ex p
  have hv := hg.1.1
  have hk : okFs (frs now 0 now.1) := frs_okFs hv (fun q hq => hq) (Nat.le_refl _)
  have hl := hk.1
  obtain ⟨Mc, c1, c2, c3, c4⟩ := c_showLine hv hC.1 z1 z2
  have hmm : ∀ M', sameOn (fun k => 139 ≤ k) M M' → ∃ M2, f_X9_isLine (iz z) M' = some ((if 0 ≤ z ∧ z < ((bgL (frs now 0 now.1) now.2.2.2).length : Int) then (1 : Int32) else 0), M2) ∧ kL M' M2 ∧ mSol M2 (frs now 0 now.1) now.2.2.2 ∧ mFr M2 (frs now 0 now.1) ∧ mPar (rdNow M2) now := fun M' hs' => m_isLine hv (hM.same hg hs').1 z1 z2
  have kn : ∀ M', f_X9_no (-1 : Int32) M' = f_X9_no (iz (-((1 : Nat) : Int))) M' := fun _ => rfl
  have kc : ∀ M', f_X8_refuse (-1 : Int32) M' = f_X8_refuse (iz (-((1 : Nat) : Int))) M' := fun _ => rfl
  have kn2 : ∀ M', f_X9_no (-2 : Int32) M' = f_X9_no (iz (-((2 : Nat) : Int))) M' := fun _ => rfl
  have kc2 : ∀ M', f_X8_refuse (-2 : Int32) M' = f_X8_refuse (iz (-((2 : Nat) : Int))) M' := fun _ => rfl
  by_cases q : 0 ≤ z ∧ z < ((bgL (frs now 0 now.1) now.2.2.2).length : Int)
  case neg =>
    rw [if_neg q] at c1
    refine both_noK hI' (v := 1) (by omega) ⟨Mc, c2, ?_⟩ (fun M' hs' => ?_)
    · unfold f_X8_lineOf
      rw [c1, b_s2, if_pos rfl, b2_id]; exact kc _
    · obtain ⟨M2, e1, e2, e3, e4, e5⟩ := hmm M' hs'
      rw [if_neg q] at e1
      refine ⟨M2, e2.keep, ?_⟩
      unfold f_X9_lineOf
      rw [e1, b_s2, if_pos rfl, b2_id]; exact kn _
  obtain ⟨i, rfl⟩ : ∃ i : Nat, z = (i : Int) := ⟨z.toNat, by omega⟩
  have hi : i < (bgL (frs now 0 now.1) now.2.2.2).length := by omega
  obtain ⟨a, ha⟩ : ∃ a, (bgL (frs now 0 now.1) now.2.2.2)[i]? = some a := ⟨_, List.getElem?_eq_getElem hi⟩
  obtain ⟨o1, o2, o3⟩ := line_ok ha
  have hL := c4 i a rfl ha
  rw [if_pos q] at c1
  obtain ⟨b, hbn⟩ : ∃ b, b = nxt (bgs (frs now 0 now.1) now.2.2.2 (frs now 0 now.1).length) (frs now 0 now.1).length i := ⟨_, rfl⟩
  rw [← hbn] at o1 o2 o3 hL
  have hmm2 : ∀ M', sameOn (fun k => 139 ≤ k) M M' → ∃ M2, f_X9_lineOf (iz (i : Int)) p' M' = (if p' = (0 : Int32) then some (iz (a : Int), M2) else if p' = (1 : Int32) then some (iz (b : Int) - iz (a : Int), M2) else if p' = (2 : Int32) then some (iz (natV (frs now 0 now.1) now.2.2.2 a b), M2) else if p' = (3 : Int32) then some (iz ((fn (frs now 0 now.1) (b - 1) : Int) - (fn (frs now 0 now.1) a : Int) + 1), M2) else if p' = (4 : Int32) then some (iz (fe (frs now 0 now.1) (b - 1) : Int), M2) else f_X9_no (-2 : Int32) M2) ∧ kL M' M2 := fun M' hs' => by
    obtain ⟨M2, e1, e2, e3, e4, e5⟩ := hmm M' hs'
    rw [if_pos q] at e1
    obtain ⟨t1, t2, t3⟩ := e3.at' hk ha
    rw [← hbn] at t3
    refine ⟨M2, ?_, e2⟩
    have u1 := e4.2.2 (b - 1) (by omega)
    have u2 := e4.2.2 a (by omega)
    unfold f_X9_lineOf
    rw [e1, b_s2, if_neg (by decide), g_t (inB_n (by omega) (by omega)), nmq_q, iz_s, g_t (inB_n (by omega) (by omega)), nmq_q, clN (by omega), clN (by omega), t2, t3, iz_m1n (by omega), e4.nat hv e5 hk o1 o2, b_s1, b2_id]
    rw [g_t (inB_n (show b - 1 < 161 by omega) (by omega)), g_t (inB_n (show a < 161 by omega) (by omega)), g_t (inB_n (show b - 1 < 161 by omega) (by omega)), clN (show b - 1 < 5000 by omega), clN (show a < 5000 by omega), u1.1, u1.2, u2.2]
    have ew : iz (fn (frs now 0 now.1) (b - 1) : Int) - iz (fn (frs now 0 now.1) a : Int) + (1 : Int32) = iz ((fn (frs now 0 now.1) (b - 1) : Int) - (fn (frs now 0 now.1) a : Int) + 1) := by rw [iz_sub, show (1 : Int32) = iz (1 : Int) from rfl, iz_add]
    rw [ew]
  have hcc : f_X8_lineOf (iz (i : Int)) p' M = (if p' = (0 : Int32) then some (iz (a : Int), Mc) else if p' = (1 : Int32) then some (iz (b : Int) - iz (a : Int), Mc) else if p' = (2 : Int32) then some (iz (natV (frs now 0 now.1) now.2.2.2 a b), Mc) else if p' = (3 : Int32) then some (iz ((fn (frs now 0 now.1) (b - 1) : Int) - (fn (frs now 0 now.1) a : Int) + 1), Mc) else if p' = (4 : Int32) then some (iz (fe (frs now 0 now.1) (b - 1) : Int), Mc) else f_X8_refuse (-2 : Int32) Mc) := by
    obtain ⟨l1, l2, -, -, -, lr⟩ := hL
    obtain ⟨l5, l3, l4, -⟩ := lr o1
    have e : f_X2_fragmentCount Mc = some (iz (b : Int) - iz (a : Int)) := by
      unfold f_X2_fragmentCount
      rw [l1, l2, iz_sub, show (1 : Int32) = iz (1 : Int) from rfl, iz_add, iz_sub]; congr 2; omega
    unfold f_X8_lineOf
    rw [c1, b_s2, if_neg (by decide), l1, e, b_s1, l4, l3, l5, b2_id]
  by_cases r0 : p' = (0 : Int32)
  · refine both_ask hI' (r := iz (a : Int)) ⟨Mc, c2, by rw [hcc, if_pos r0]⟩ (fun M' hs' => ?_)
    obtain ⟨M2, e1, e2⟩ := hmm2 M' hs'
    exact ⟨M2, e2.keep, by rw [e1, if_pos r0]⟩
  by_cases r1 : p' = (1 : Int32)
  · refine both_ask hI' (r := iz (b : Int) - iz (a : Int)) ⟨Mc, c2, by rw [hcc, if_neg r0, if_pos r1]⟩ (fun M' hs' => ?_)
    obtain ⟨M2, e1, e2⟩ := hmm2 M' hs'
    exact ⟨M2, e2.keep, by rw [e1, if_neg r0, if_pos r1]⟩
  by_cases r2 : p' = (2 : Int32)
  · refine both_ask hI' (r := iz (natV (frs now 0 now.1) now.2.2.2 a b)) ⟨Mc, c2, by rw [hcc, if_neg r0, if_neg r1, if_pos r2]⟩ (fun M' hs' => ?_)
    obtain ⟨M2, e1, e2⟩ := hmm2 M' hs'
    exact ⟨M2, e2.keep, by rw [e1, if_neg r0, if_neg r1, if_pos r2]⟩
  by_cases r3 : p' = (3 : Int32)
  · refine both_ask hI' (r := iz ((fn (frs now 0 now.1) (b - 1) : Int) - (fn (frs now 0 now.1) a : Int) + 1)) ⟨Mc, c2, by rw [hcc, if_neg r0, if_neg r1, if_neg r2, if_pos r3]⟩ (fun M' hs' => ?_)
    obtain ⟨M2, e1, e2⟩ := hmm2 M' hs'
    exact ⟨M2, e2.keep, by rw [e1, if_neg r0, if_neg r1, if_neg r2, if_pos r3]⟩
  by_cases r4 : p' = (4 : Int32)
  · refine both_ask hI' (r := iz (fe (frs now 0 now.1) (b - 1) : Int)) ⟨Mc, c2, by rw [hcc, if_neg r0, if_neg r1, if_neg r2, if_neg r3, if_pos r4]⟩ (fun M' hs' => ?_)
    obtain ⟨M2, e1, e2⟩ := hmm2 M' hs'
    exact ⟨M2, e2.keep, by rw [e1, if_neg r0, if_neg r1, if_neg r2, if_neg r3, if_pos r4]⟩
  refine both_noK hI' (v := 2) (by omega) ⟨Mc, c2, by rw [hcc, if_neg r0, if_neg r1, if_neg r2, if_neg r3, if_neg r4]; exact kc2 _⟩ (fun M' hs' => ?_)
  obtain ⟨M2, e1, e2⟩ := hmm2 M' hs'
  exact ⟨M2, e2.keep, by rw [e1, if_neg r0, if_neg r1, if_neg r2, if_neg r3, if_neg r4]; exact kn2 _⟩
