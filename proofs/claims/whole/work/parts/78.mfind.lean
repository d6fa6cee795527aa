/-! the reference finds the lines -/
def kL (M M' : Mem) : Prop := sameOn (fun k => k ≠ 139 ∧ (k < 149 ∨ 156 ≤ k)) M M' ∧ ∀ j, j ≠ 25 → j ≠ 29 → gi M' 139 j = gi M 139 j
theorem kL.rf {M : Mem} : kL M M := ⟨sameOn.rf, fun _ _ _ => rfl⟩
theorem kL.tr {M M' M'' : Mem} (h : kL M M') (h' : kL M' M'') : kL M M'' := ⟨h.1.tr h'.1, fun j h1 h2 => (h'.2 j h1 h2).trans (h.2 j h1 h2)⟩
theorem kL.par {M M' : Mem} {v : PV} (h : kL M M') (hv : okV v) (hm : mPar (rdNow M) v) : mPar (rdNow M') v := hm.congr hv (rdNow.congr (h.1.mono (fun a ha => by omega)) (fun j _ _ => h.2 j (by omega) (by omega)))
theorem kL.keep {M M' : Mem} (h : kL M M') : keepM M M' := ⟨h.1.mono (fun a ha => by omega), fun j hj => h.2 j (by omega) (by omega), fun x _ => by rw [(h.1 163 (by omega)).1]⟩
theorem kF.toL {M M' : Mem} (h : kF M M') : kL M M' := ⟨h.1.mono (fun a ha => by omega), fun j h1 _ => h.2 j h1⟩
theorem kS.toL {M M' : Mem} (h : kS M M') : kL M M' := ⟨h.mono (fun a ha => by omega), fun j _ _ => by rw [(h 139 (by omega)).1]⟩
theorem m_bestsL {v : PV} (hv : okV v) {F : List Fr} (hk : okFs F) : ∀ (d f j : Nat) (M : Mem), j + d = F.length → d < f → mPar (rdNow M) v → mFr M F → mTb M F v.2.2.2 j →
    ∃ M', lq2 f_X9_findLines_L21 f (iz ((j + 1 : Nat) : Int)) M = some M' ∧ mTb M' F v.2.2.2 F.length ∧ kS M M' := by
  have hl := hk.1
  intro d
  induction d with
  | zero =>
    intro f j M e1 e2 hm hF hT
    obtain ⟨f, rfl⟩ : ∃ g, f = g + 1 := ⟨f - 1, by omega⟩
    refine ⟨M, ?_, by rw [show F.length = j by omega]; exact hT, sameOn.rf⟩
    rw [lq2_s]
    generalize lq2 f_X9_findLines_L21 f = K
    unfold f_X9_findLines_L21
    rw [hF.1, if_pos ((iz_cnt (by omega) (by omega)).1.mpr (by omega))]
  | succ d ih =>
    intro f j M e1 e2 hm hF hT
    obtain ⟨f, rfl⟩ : ∃ g, f = g + 1 := ⟨f - 1, by omega⟩
    obtain ⟨M1, r1, r2, r3⟩ := m_best hv hk (j := j + 1) (by omega) (by omega) hm hF (by rw [show j + 1 - 1 = j by omega]; exact hT)
    obtain ⟨M', q1, q2, q3⟩ := ih f (j + 1) M1 (by omega) (by omega) (r3.par hv hm) (r3.fr hF) r2
    refine ⟨M', ?_, q2, r3.tr q3⟩
    rw [lq2_s]
    generalize lq2 f_X9_findLines_L21 f = K at q1 ⊢
    unfold f_X9_findLines_L21
    rw [hF.1, if_neg (fun e => by have := (iz_cnt (n := F.length) (m := j + 1) (by omega) (by omega)).1.mp e; omega), r1, b_s1, nmq_q, iz_s]; exact q1
theorem mTb.from' {M : Mem} {F : List Fr} {s : Nat → Int} {m j : Nat} (h : mTb M F s m) (h1 : 1 ≤ j) (h2 : j ≤ m) {x : UInt32 × Nat} (hx : bst F s j = some x) : gf M 153 j = x.1 ∧ gi M 154 j = iz (x.2 : Int) := by
  have := h.2.2 j h1 h2
  rw [hx] at this; exact this
theorem m_backL {F : List Fr} (hk : okFs F) {s : Nat → Int} {M : Mem} (hT : mTb M F s F.length) : ∀ (n j f c : Nat), j ≤ n → j ≤ F.length → (bst F s j).isSome → j < f → c + j ≤ 160 →
    lq2 (f_X9_linesBack_L7 M) f (iz (c : Int)) (iz (j : Int)) = some (iz ((c + (bgs F s j).length : Nat) : Int)) := by
  have hl := hk.1
  intro n
  induction n with
  | zero =>
    intro j f c h1 h2 h3 h4 h5
    obtain ⟨f, rfl⟩ : ∃ g, f = g + 1 := ⟨f - 1, by omega⟩
    have hj : j = 0 := by omega
    rw [lq2_s]
    generalize lq2 (f_X9_linesBack_L7 M) f = K
    unfold f_X9_linesBack_L7
    rw [if_pos (by rw [hj]; decide), hj, bgs_0]; rfl
  | succ n ih =>
    intro j f c h1 h2 h3 h4 h5
    obtain ⟨f, rfl⟩ : ∃ g, f = g + 1 := ⟨f - 1, by omega⟩
    by_cases q : j = 0
    · rw [lq2_s]
      generalize lq2 (f_X9_linesBack_L7 M) f = K
      unfold f_X9_linesBack_L7
      rw [if_pos (by rw [q]; decide), q, bgs_0]; rfl
    · obtain ⟨x, hx⟩ := Option.isSome_iff_exists.mp h3
      obtain ⟨b1, b2, b, b3, b4⟩ := bst_some (by omega) hx
      have hfrom := (hT.from' (by omega) h2 hx).2
      have r1 := ih x.2 f (c + 1) (by omega) (by omega) (by rw [b3]; rfl) (by omega) (by omega)
      rw [lq2_s]
      generalize lq2 (f_X9_linesBack_L7 M) f = K at r1 ⊢
      unfold f_X9_linesBack_L7
      rw [if_neg (fun e => by have := (pos_iz (by omega) (by omega)).mp e; omega), nmq_q, g_t (inB_n (by omega) (by omega)), nmq_q, clN (by omega), hfrom, iz_s, r1, bgs_s q hx, List.length_append]
      congr 3
      show c + 1 + (bgs F s x.2).length = c + ((bgs F s x.2).length + 1)
      omega
theorem m_begL {F : List Fr} (hk : okFs F) {s : Nat → Int} : ∀ (n j f : Nat) (M : Mem), j ≤ n → j ≤ F.length → (bst F s j).isSome → j + 1 < f → mTb M F s F.length →
    ∃ M', lq3 f_X9_findLines_L82 f (iz (j : Int)) (iz ((bgs F s j).length : Int)) M = some M' ∧ gi M' 155 (bgs F s j).length = iz (j : Int) ∧ (∀ t a : Nat, (bgs F s j)[t]? = some a → gi M' 155 t = iz (a : Int)) ∧ (∀ t, (bgs F s j).length < t → gi M' 155 t = gi M 155 t) ∧ sameOn (fun k => k ≠ 155) M M' := by
  have hl := hk.1
  have h0 : ∀ (f : Nat) (M : Mem), 1 < f → ∃ M', lq3 f_X9_findLines_L82 f (iz ((0 : Nat) : Int)) (iz ((bgs F s 0).length : Int)) M = some M' ∧ gi M' 155 (bgs F s 0).length = iz ((0 : Nat) : Int) ∧ (∀ t a : Nat, (bgs F s 0)[t]? = some a → gi M' 155 t = iz (a : Int)) ∧ (∀ t, (bgs F s 0).length < t → gi M' 155 t = gi M 155 t) ∧ sameOn (fun k => k ≠ 155) M M' := by
    intro f M hf
    obtain ⟨f, rfl⟩ : ∃ g, f = g + 2 := ⟨f - 2, by omega⟩
    refine ⟨si M 155 0 (iz ((0 : Nat) : Int)), ?_, by rw [bgs_0, gi_si]; exact if_pos ⟨rfl, rfl⟩, fun t a h => by rw [bgs_0] at h; simp at h, fun t ht => by rw [gi_si, if_neg (by rw [bgs_0] at ht; have : 0 < t := ht; omega)], sameOn.si (by omega)⟩
    rw [bgs_0, lq3_s]
    generalize hK : lq3 f_X9_findLines_L82 (f + 1) = K
    unfold f_X9_findLines_L82
    show (if iz ((0 : Nat) : Int) < 0 then _ else _) = _
    rw [if_neg (by decide), g_t (show inB (iz (([] : List Nat).length : Int)) 162 from inB_n (i := 0) (by omega) (by omega)), nmq_q, if_pos (by decide), nmq_q, ← hK, lq3_s]
    generalize lq3 f_X9_findLines_L82 f = K
    unfold f_X9_findLines_L82
    rw [if_pos (by decide)]; rfl
  intro n
  induction n with
  | zero =>
    intro j f M h1 h2 h3 h4 hT
    have hj : j = 0 := by omega
    rw [hj]; exact h0 f M (by omega)
  | succ n ih =>
    intro j f M h1 h2 h3 h4 hT
    by_cases q : j = 0
    · rw [q]; exact h0 f M (by omega)
    · obtain ⟨f, rfl⟩ : ∃ g, f = g + 1 := ⟨f - 1, by omega⟩
      obtain ⟨x, hx⟩ := Option.isSome_iff_exists.mp h3
      obtain ⟨b1, b2, b, b3, b4⟩ := bst_some (by omega) hx
      have hfrom := (hT.from' (by omega) h2 hx).2
      have hlen := bgs_len (F := F) (s := s) x.2 x.2 (by omega) (by rw [b3]; rfl)
      have hbl : (bgs F s j).length = (bgs F s x.2).length + 1 := by rw [bgs_s q hx, List.length_append]; rfl
      have hT1 : mTb (si M 155 (bgs F s j).length (iz (j : Int))) F s F.length := by
        refine ⟨hT.1, by rw [gi_si, if_neg (by omega)]; exact hT.2.1, fun i u1 u2 => ?_⟩
        have := hT.2.2 i u1 u2
        unfold mAt at this ⊢
        rw [gf_si, gi_si, if_neg (by omega)]; exact this
      obtain ⟨M', r1, r2, r3, r4, r5⟩ := ih x.2 f (si M 155 (bgs F s j).length (iz (j : Int))) (by omega) (by omega) (by rw [b3]; rfl) (by omega) hT1
      refine ⟨M', ?_, ?_, fun t a h => ?_, fun t ht => ?_, (sameOn.si (by omega)).tr r5⟩
      · rw [lq3_s]
        generalize lq3 f_X9_findLines_L82 f = K at r1 ⊢
        unfold f_X9_findLines_L82
        have e154 : gi (si M 155 (bgs F s j).length (iz (j : Int))) 154 j = iz (x.2 : Int) := by rw [gi_si, if_neg (by omega)]; exact hfrom
        rw [if_neg (not_neg _ (by omega)), g_t (inB_n (by omega) (by omega)), nmq_q, clN (by omega), if_neg (fun e => by have := (pos_iz (by omega) (by omega)).mp e; omega), g_t (inB_n (by omega) (by omega)), nmq_q, nmq_q, clN (by omega), e154]
        have e2 : iz ((bgs F s j).length : Int) + (-1 : Int32) = iz ((bgs F s x.2).length : Int) := by
          rw [← iz_minus1, iz_add]; congr 1; omega
        rw [e2]; exact r1
      · rw [r4 _ (by omega), gi_si, if_pos ⟨rfl, rfl⟩]
      · rw [bgs_s q hx] at h
        rcases snoc_at h with ⟨u1, u2⟩ | ⟨u1, u2⟩
        · exact r3 t a u2
        · rw [u1, r2, u2]
      · rw [r4 t (by omega), gi_si, if_neg (by omega)]
/-- the lines that the reference found -/
def mSol (M : Mem) (F : List Fr) (s : Nat → Int) : Prop := gi M 139 29 = iz (cntV F s) ∧ ((bst F s F.length).isSome = true → gf M 153 F.length = oV (bst F s F.length) ∧ gi M 155 (bgs F s F.length).length = iz (F.length : Int) ∧ ∀ t a : Nat, (bgs F s F.length)[t]? = some a → gi M 155 t = iz (a : Int))
theorem m_find {v : PV} (hv : okV v) {M : Mem} (hm : mPar (rdNow M) v) : ∃ M', f_X9_findLines M = some (iz (cntV (frs v 0 v.1) v.2.2.2), M') ∧ mSol M' (frs v 0 v.1) v.2.2.2 ∧ mFr M' (frs v 0 v.1) ∧ kL M M' := by
  have hk : okFs (frs v 0 v.1) := frs_okFs hv (fun q hq => hq) (Nat.le_refl _)
  have hl := hk.1
  obtain ⟨M1, f1, f2, f3⟩ := m_findF hv hm
  generalize frs v 0 v.1 = F at hk hl f2 ⊢
  obtain ⟨M4, e4⟩ : ∃ M4, M4 = si (sf M1 153 0 FP.fconst0) 154 0 (-9 : Int32) := ⟨_, rfl⟩
  have s4 : kS M1 M4 := by rw [e4]; exact (sameOn.sf (by omega)).tr (sameOn.si (by omega))
  have hF4 : mFr M4 F := s4.fr f2
  have hm4 := s4.par hv (f3.par hv hm)
  have hT4 : mTb M4 F v.2.2.2 0 := by
    refine ⟨?_, ?_, fun j h1 h2 => by omega⟩
    · rw [e4, gf_si, gf_sf', if_pos ⟨rfl, rfl⟩]
    · rw [e4, gi_si, if_pos ⟨rfl, rfl⟩]
  obtain ⟨M9, r1, r2, r3⟩ := m_bestsL hv hk F.length FU 0 M4 (by omega) (by rw [FU_eq]; omega) hm4 hF4 hT4
  have hF9 := r3.fr hF4
  have hbst0 : F.length = 0 → (bst F v.2.2.2 F.length).isSome := fun h => by rw [h, bst_0]; rfl
  have ecnt : (jq (fun (_ : Unit) => (bq1 (f_X9_linesBack M9) (fun (x34 : Int32) => (some (x34))))) (fun (K33 : Unit → Option (Int32)) => (if (gi M9 139 25) ≤ 0 then (K33 ()) else (gq (inB (gi M9 139 25) 161) ((if 0 ≤ (gi M9 154 (((gi M9 139 25) : Int32).toNatClampNeg)) then (K33 ()) else (some ((-9 : Int32))))))))) = some (iz (cntV F v.2.2.2)) := by
    have hback : (bst F v.2.2.2 F.length).isSome = true → f_X9_linesBack M9 = some (iz ((bgs F v.2.2.2 F.length).length : Int)) := fun hsm => by
      unfold f_X9_linesBack
      have := m_backL hk r2 F.length F.length FU 0 (Nat.le_refl _) (Nat.le_refl _) hsm (by rw [FU_eq]; omega) (by omega)
      rw [Nat.zero_add] at this
      rw [nmq_q, hF9.1, b1_id]; exact this
    have hc : (bst F v.2.2.2 F.length).isSome = true → cntV F v.2.2.2 = ((bgs F v.2.2.2 F.length).length : Int) := fun hsm => by
      unfold cntV
      cases hb : bst F v.2.2.2 F.length with
      | none => rw [hb] at hsm; cases hsm
      | some x => rfl
    rw [jq_q, hF9.1]
    by_cases q : F.length = 0
    · rw [if_pos ((pos_iz (by omega) (by omega)).mpr (by omega)), hback (hbst0 q), b_s1, hc (hbst0 q)]
    · rw [if_neg (fun e => by have := (pos_iz (by omega) (by omega)).mp e; omega), g_t (inB_n (by omega) (by omega)), clN (by omega)]
      cases hb : bst F v.2.2.2 F.length with
      | none =>
        have hat := r2.2.2 F.length (by omega) (Nat.le_refl _)
        rw [hb] at hat
        have hat : gi M9 154 F.length = (-9 : Int32) := hat
        rw [hat, if_neg (by decide)]
        unfold cntV
        rw [hb]; rfl
      | some x =>
        have hsm : (bst F v.2.2.2 F.length).isSome = true := by rw [hb]; rfl
        have hx := (bst_some (by omega) hb).1
        rw [(r2.from' (by omega) (Nat.le_refl _) hb).2, if_pos (show (0 : Int32) ≤ iz (x.2 : Int) from le_cnt (n := 0) (by omega) (by omega)), hback hsm, b_s1, hc hsm]
  obtain ⟨M12, e12⟩ : ∃ M12, M12 = si M9 139 29 (iz (cntV F v.2.2.2)) := ⟨_, rfl⟩
  have k12 : kL M9 M12 := by rw [e12]; exact ⟨sameOn.si (by omega), fun j _ h2 => by rw [gi_si, if_neg (by omega)]⟩
  have hF12 : mFr M12 F := hF9.same (by rw [e12]; exact sameOn.si (by omega)) (by rw [e12, gi_si, if_neg (by omega)])
  have h29 : gi M12 139 29 = iz (cntV F v.2.2.2) := by rw [e12, gi_si, if_pos ⟨rfl, rfl⟩]
  have kAll : kL M M12 := ((f3.toL.tr s4.toL).tr r3.toL).tr k12
  have hT12 : mTb M12 F v.2.2.2 F.length := by
    refine ⟨by rw [e12]; exact r2.1, by rw [e12, gi_si, if_neg (by omega)]; exact r2.2.1, fun i u1 u2 => ?_⟩
    have := r2.2.2 i u1 u2
    unfold mAt at this ⊢
    rw [e12, gf_si, gi_si, if_neg (by omega)]; exact this
  have hun : f_X9_findLines M = bq1 (lq3 f_X9_findLines_L82 FU (iz (F.length : Int)) (iz (cntV F v.2.2.2)) M12) (fun (M20 : Mem) => some ((gi M20 139 29), M20)) := by
    unfold f_X9_findLines
    have r1' : lq2 f_X9_findLines_L21 FU (1 : Int32) M4 = some M9 := r1
    rw [f1, b_s1, nmq_q, nmq_q, ← e4, r1', b_s1, ecnt, b_s1, nmq_q, ← e12, nmq_q, nmq_q, hF12.1, h29]
  rw [hun]
  cases hb : bst F v.2.2.2 F.length with
  | none =>
    have hc : cntV F v.2.2.2 = -9 := by unfold cntV; rw [hb]
    refine ⟨M12, ?_, ⟨h29, fun h => by rw [hb] at h; cases h⟩, hF12, kAll⟩
    rw [FU_eq, lq3_s]
    generalize lq3 f_X9_findLines_L82 _ = K
    unfold f_X9_findLines_L82
    rw [hc, if_pos (by decide), b_s1, h29, hc]
  | some x =>
    have hsm : (bst F v.2.2.2 F.length).isSome = true := by rw [hb]; rfl
    have hc : cntV F v.2.2.2 = ((bgs F v.2.2.2 F.length).length : Int) := by unfold cntV; rw [hb]
    obtain ⟨M20, q1, q2, q3, q4, q5⟩ := m_begL hk F.length F.length FU M12 (Nat.le_refl _) (Nat.le_refl _) hsm (by rw [FU_eq]; omega) hT12
    refine ⟨M20, ?_, ⟨by rw [(q5 139 (by omega)).1]; exact h29, fun _ => ⟨?_, q2, q3⟩⟩, hF12.same (q5.mono (fun a ha => by omega)) (by rw [(q5 139 (by omega)).1]), kAll.tr ⟨q5.mono (fun a ha => by omega), fun j _ _ => by rw [(q5 139 (by omega)).1]⟩⟩
    · rw [hc, q1, b_s1, (q5 139 (by omega)).1, h29, hc]
    · rw [(q5 153 (by omega)).2.2]
      by_cases q : F.length = 0
      · rw [q, bst_0]; exact hT12.1
      · rw [(hT12.from' (by omega) (Nat.le_refl _) hb).1, hb]; rfl
