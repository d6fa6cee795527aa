/-! totals by a number of lines: the reference's -/
def kB (M M' : Mem) : Prop := sameOn (fun k => k < 164 ∨ 168 ≤ k) M M'
theorem kB.keep {M M' : Mem} (h : kB M M') : keepM M M' := ⟨h.mono (fun a ha => by omega), fun j _ => by rw [(h 139 (by omega)).1], fun x _ => by rw [(h 163 (by omega)).1]⟩
theorem kB.par {M M' : Mem} {v : PV} (h : kB M M') (hv : okV v) (hm : mPar (rdNow M) v) : mPar (rdNow M') v := h.keep.par hv hm
theorem kB.fr {M M' : Mem} {F : List Fr} (h : kB M M') (hF : mFr M F) : mFr M' F := hF.same (h.mono (fun a ha => by omega)) (by rw [(h 139 (by omega)).1])
def nowT (M : Mem) (j : Nat) (t : Option UInt32) : Prop := match t with
  | none => gi M 166 j = 0
  | some x => gi M 166 j = 1 ∧ gf M 164 j = x
def thenT (M : Mem) (j : Nat) (t : Option UInt32) : Prop := match t with
  | none => gi M 167 j = 0
  | some x => gi M 167 j = 1 ∧ gf M 165 j = x
theorem nowT.congr {M M' : Mem} {j : Nat} {t : Option UInt32} (h : nowT M j t) (h1 : gf M' 164 j = gf M 164 j) (h2 : gi M' 166 j = gi M 166 j) : nowT M' j t := by
  unfold nowT at h ⊢
  rw [h1, h2]; exact h
theorem thenT.congr {M M' : Mem} {j : Nat} {t : Option UInt32} (h : thenT M j t) (h1 : gf M' 165 j = gf M 165 j) (h2 : gi M' 167 j = gi M 167 j) : thenT M' j t := by
  unfold thenT at h ⊢
  rw [h1, h2]; exact h
def kN (M M' : Mem) : Prop := sameOn (fun k => k ≠ 164 ∧ k ≠ 166) M M'
theorem kN.toB {M M' : Mem} (h : kN M M') : kB M M' := h.mono (fun a ha => by omega)
theorem kN.then {M M' : Mem} (h : kN M M') {j : Nat} {t : Option UInt32} (ht : thenT M j t) : thenT M' j t := ht.congr (by rw [(h 165 (by omega)).2.2]) (by rw [(h 167 (by omega)).1])
theorem m_byL {v : PV} (hv : okV v) {F : List Fr} (hk : okFs F) {H : Tb} (hH : okT F H) {j : Nat} (hj1 : 1 ≤ j) (hj : j ≤ F.length) : ∀ (m f : Nat) (M : Mem) (t : Option UInt32), m ≤ j → m < f → (1 ≤ m → nfB F (m - 1) j = true) → mPar (rdNow M) v → mFr M F → (∀ i, i < j → thenT M i ((H i).map (·.1))) → nowT M j t → (∀ x, t = some x → nn x) →
    ∃ M', lq2 (f_X9_findByOf_L11 (iz (j : Int))) f (iz ((m : Int) - 1)) M = some M' ∧ nowT M' j (dscS (cnd F v.2.2.2 H j) m t) ∧ (∀ i, i ≠ j → gf M' 164 i = gf M 164 i ∧ gi M' 166 i = gi M 166 i) ∧ kN M M' := by
  have hl := hk.1
  have hs := hv.2.2.2.2.2
  intro m
  induction m with
  | zero =>
    intro f M t e1 e2 e3 hm hF hT hA hx
    obtain ⟨f, rfl⟩ : ∃ g, f = g + 1 := ⟨f - 1, by omega⟩
    refine ⟨M, ?_, hA, fun _ _ => ⟨rfl, rfl⟩, sameOn.rf⟩
    rw [lq2_s]
    generalize lq2 (f_X9_findByOf_L11 (iz (j : Int))) f = K
    unfold f_X9_findByOf_L11
    rw [if_pos (by decide)]
  | succ m ih =>
    intro f M t e1 e2 e3 hm hF hT hA hx
    obtain ⟨f, rfl⟩ : ∃ g, f = g + 1 := ⟨f - 1, by omega⟩
    have hnf : nfB F m j = true := e3 (by omega)
    have em : ((m + 1 : Nat) : Int) - 1 = (m : Int) := by omega
    have hfit := hF.fit hv hm hk (i := m) (j := j) (by omega) hj
    have hok : okB F v.2.2.2 m j = fitV F v.2.2.2 m j := by unfold okB; rw [hnf, Bool.and_true]
    have hcnd : cnd F v.2.2.2 H j m = (if fitV F v.2.2.2 m j = true then (H m).map (fun b => FP.fadd b.1 (demV F v.2.2.2 m j)) else none) := by unfold cnd; rw [hok]
    have hclm : (iz (m : Int) : Int32).toNatClampNeg = m := clN (by omega)
    have hclj : (iz (j : Int) : Int32).toNatClampNeg = j := clN (by omega)
    -- one step of the row
    have hset : ∀ (d : UInt32), nn d → ∃ M1, (gq (inB (iz (j : Int)) 161) ((bq1 ((jq (fun (_ : Unit) => (gq (inB (iz (j : Int)) 161) (nmq (sf M 164 ((iz (j : Int) : Int32).toNatClampNeg) d) (fun (M41 : Mem) => (some (M41)))))) (fun (K39 : Unit → Option (Mem)) => (if (gi M 166 ((iz (j : Int) : Int32).toNatClampNeg)) = 0 then (K39 ()) else (gq (inB (iz (j : Int)) 161) ((if 0 ≤ (fcg d (gf M 164 ((iz (j : Int) : Int32).toNatClampNeg))) then (some (M)) else (K39 ()))))))) : Option (Mem)) (fun (M33 : Mem) => (gq (inB (iz (j : Int)) 161) (nmq (si M33 166 ((iz (j : Int) : Int32).toNatClampNeg) (1 : Int32)) (fun (M36 : Mem) => (some (M36))))))))) = some M1 ∧ nowT M1 j (updS t (some d)) ∧ (∀ i, i ≠ j → gf M1 164 i = gf M 164 i ∧ gi M1 166 i = gi M 166 i) ∧ kN M M1 := by
      intro d hd
      obtain ⟨Ms, hMs⟩ : ∃ Ms, Ms = si (sf M 164 j d) 166 j (1 : Int32) := ⟨_, rfl⟩
      obtain ⟨Mo, hMo⟩ : ∃ Mo, Mo = si M 166 j (1 : Int32) := ⟨_, rfl⟩
      have sMs : kN M Ms := by rw [hMs]; exact (sameOn.sf (by omega)).tr (sameOn.si (by omega))
      have sMo : kN M Mo := by rw [hMo]; exact sameOn.si (by omega)
      have aMs : nowT Ms j (some d) := by
        refine ⟨?_, ?_⟩
        · rw [hMs, gi_si, if_pos ⟨rfl, rfl⟩]
        · rw [hMs, gf_si, gf_sf', if_pos ⟨rfl, rfl⟩]
      have oMs : ∀ i, i ≠ j → gf Ms 164 i = gf M 164 i ∧ gi Ms 166 i = gi M 166 i := fun i hi => ⟨by rw [hMs, gf_si, gf_sf', if_neg (by omega)], by rw [hMs, gi_si, if_neg (by omega)]; rfl⟩
      have oMo : ∀ i, i ≠ j → gf Mo 164 i = gf M 164 i ∧ gi Mo 166 i = gi M 166 i := fun i hi => ⟨by rw [hMo, gf_si], by rw [hMo, gi_si, if_neg (by omega)]⟩
      rw [g_t (inB_n (by omega) (by omega)), jq_q, g_t (inB_n (by omega) (by omega)), nmq_q]
      simp only [hclj]
      cases t with
      | none =>
        have hA0 : gi M 166 j = 0 := hA
        refine ⟨Ms, ?_, aMs, oMs, sMs⟩
        rw [if_pos hA0, b_s1, g_t (inB_n (by omega) (by omega)), nmq_q, hMs]
      | some y =>
        have hy := hx y rfl
        have hA1 : gi M 166 j = 1 ∧ gf M 164 j = y := hA
        rw [if_neg (show ¬ gi M 166 j = 0 by rw [hA1.1]; decide), g_t (inB_n (by omega) (by omega)), hA1.2, (fc_val (nn_ne hd) (nn_ne hy)).1]
        show ∃ M1, _ ∧ nowT M1 j (if zv d < zv y then some d else some y) ∧ _
        by_cases q : zv d < zv y
        · refine ⟨Ms, ?_, ?_, oMs, sMs⟩
          · rw [if_neg (fun e => by have := cmp3_ge.mp e; omega), b_s1, g_t (inB_n (by omega) (by omega)), nmq_q, hMs]
          · rw [if_pos q]; exact aMs
        · refine ⟨Mo, ?_, ?_, oMo, sMo⟩
          · rw [if_pos (cmp3_ge.mpr (by omega)), b_s1, g_t (inB_n (by omega) (by omega)), nmq_q, hMo]
          · rw [if_neg q]
            refine ⟨?_, ?_⟩
            · rw [hMo, gi_si, if_pos ⟨rfl, rfl⟩]
            · rw [hMo, gf_si]; exact hA1.2
    -- what the whole step makes of the row
    obtain ⟨M1, o1, o2, o3, o4⟩ : ∃ M1, ((if (gi M 167 ((iz (m : Int) : Int32).toNatClampNeg)) = (1 : Int32) then (bq1 (f_X9_fits (iz (m : Int)) (iz (j : Int)) M) (fun (x24 : Int32) => (if x24 = 0 then (some (M)) else (gq (inB (iz (m : Int)) 161) (bq1 (f_X9_demeritsOf (iz (m : Int)) (iz (j : Int)) M) (fun (x28 : UInt32) => nmq (FP.fadd (gf M 165 ((iz (m : Int) : Int32).toNatClampNeg)) x28) (fun (x30 : UInt32) => gq (nN x30) (gq (inB (iz (j : Int)) 161) ((bq1 ((jq (fun (_ : Unit) => (gq (inB (iz (j : Int)) 161) (nmq (sf M 164 ((iz (j : Int) : Int32).toNatClampNeg) x30) (fun (M41 : Mem) => (some (M41)))))) (fun (K39 : Unit → Option (Mem)) => (if (gi M 166 ((iz (j : Int) : Int32).toNatClampNeg)) = 0 then (K39 ()) else (gq (inB (iz (j : Int)) 161) ((if 0 ≤ (fcg x30 (gf M 164 ((iz (j : Int) : Int32).toNatClampNeg))) then (some (M)) else (K39 ()))))))) : Option (Mem)) (fun (M33 : Mem) => (gq (inB (iz (j : Int)) 161) (nmq (si M33 166 ((iz (j : Int) : Int32).toNatClampNeg) (1 : Int32)) (fun (M36 : Mem) => (some (M36)))))))))))))))) else (some (M))) : Option (Mem)) = some M1 ∧ nowT M1 j (updS t (cnd F v.2.2.2 H j m)) ∧ (∀ i, i ≠ j → gf M1 164 i = gf M 164 i ∧ gi M1 166 i = gi M 166 i) ∧ kN M M1 := by
      have hTm := hT m (by omega)
      rw [hcnd]
      cases hb : H m with
      | none =>
        rw [hb] at hTm
        have hTm : gi M 167 m = 0 := hTm
        refine ⟨M, ?_, ?_, fun _ _ => ⟨rfl, rfl⟩, sameOn.rf⟩
        · rw [if_neg (show ¬ gi M 167 ((iz (m : Int) : Int32).toNatClampNeg) = (1 : Int32) by rw [hclm, hTm]; decide)]
        · by_cases q : fitV F v.2.2.2 m j = true
          · rw [if_pos q]; exact hA
          · rw [if_neg q]; exact hA
      | some y =>
        rw [hb] at hTm
        have hTm : gi M 167 m = 1 ∧ gf M 165 m = y.1 := hTm
        have htot := hH m y (by omega) hb
        by_cases q : fitV F v.2.2.2 m j = true
        · have hta := tot_add hk hs (i := m) (j := j) (by omega) hj q htot
          obtain ⟨M1, p1, p2, p3, p4⟩ := hset (FP.fadd y.1 (demV F v.2.2.2 m j)) hta.1
          refine ⟨M1, ?_, ?_, p3, p4⟩
          · rw [if_pos (show gi M 167 ((iz (m : Int) : Int32).toNatClampNeg) = (1 : Int32) by rw [hclm]; exact hTm.1), hfit, b_s1, if_pos q, if_neg (by decide), g_t (inB_n (by omega) (by omega)), hF.dem hv hm hk (by omega) hj q, b_s1, nmq_q, hclm, hTm.2, g_t (nN_of (nn_ne hta.1))]
            exact p1
          · rw [if_pos q]; exact p2
        · refine ⟨M, ?_, ?_, fun _ _ => ⟨rfl, rfl⟩, sameOn.rf⟩
          · rw [if_pos (show gi M 167 ((iz (m : Int) : Int32).toNatClampNeg) = (1 : Int32) by rw [hclm]; exact hTm.1), hfit, b_s1, if_neg q, if_pos rfl]
          · rw [if_neg q]; exact hA
    have hm1 := o4.toB.par hv hm
    have hF1 := o4.toB.fr hF
    have hT1 : ∀ i, i < j → thenT M1 i ((H i).map (·.1)) := fun i hi => o4.then (hT i hi)
    have hx1 : ∀ x, updS t (cnd F v.2.2.2 H j m) = some x → nn x := by
      intro x hx'
      cases hc : cnd F v.2.2.2 H j m with
      | none => rw [hc] at hx'; exact hx x hx'
      | some d =>
        rw [hc] at hx'
        have hd := (cnd_tot hk hs hH (i := m) (by omega) hj hc).1
        cases t with
        | none =>
          have hx' : some d = some x := hx'
          cases hx'; exact hd
        | some y =>
          have hx' : (if zv d < zv y then some d else some y) = some x := hx'
          by_cases q : zv d < zv y
          · rw [if_pos q] at hx'; cases hx'; exact hd
          · rw [if_neg q] at hx'; cases hx'; exact hx _ rfl
    have hstep : lq2 (f_X9_findByOf_L11 (iz (j : Int))) (f + 1) (iz (((m + 1 : Nat) : Int) - 1)) M = (if iz (m : Int) ≤ 0 then lq2 (f_X9_findByOf_L11 (iz (j : Int))) f (iz (m : Int) - (1 : Int32)) M1 else (gq (inB (iz (m : Int) - (1 : Int32)) 161) (if (gi M1 151 ((iz (m : Int) - (1 : Int32)) : Int32).toNatClampNeg) = (2 : Int32) then lq2 (f_X9_findByOf_L11 (iz (j : Int))) f (-1 : Int32) M1 else lq2 (f_X9_findByOf_L11 (iz (j : Int))) f (iz (m : Int) - (1 : Int32)) M1))) := by
      rw [lq2_s, em]
      generalize lq2 (f_X9_findByOf_L11 (iz (j : Int))) f = K
      unfold f_X9_findByOf_L11
      rw [if_neg (not_neg m (by omega)), g_t (inB_n (by omega) (by omega))]
      refine (b1_some o1).trans ?_
      rw [jq_q]; rfl
    have e1' : iz (m : Int) - (1 : Int32) = iz ((m : Int) - 1) := by rw [show (1 : Int32) = iz (1 : Int) from rfl, iz_sub]
    show ∃ M', _ ∧ nowT M' j (dscS (cnd F v.2.2.2 H j) m (updS t (cnd F v.2.2.2 H j m))) ∧ _
    by_cases q0 : m = 0
    · obtain ⟨M', r1, r2, r3, r4⟩ := ih f M1 _ (by omega) (by omega) (fun h => by omega) hm1 hF1 hT1 o2 hx1
      refine ⟨M', ?_, r2, fun i hi => ⟨(r3 i hi).1.trans (o3 i hi).1, (r3 i hi).2.trans (o3 i hi).2⟩, o4.tr r4⟩
      rw [hstep, if_pos ((pos_iz (by omega) (by omega)).mpr (by omega)), e1']; exact r1
    · have e5 := (hF1.2.2 (m - 1) (by omega)).1
      have hb5 := fw_b hk (m - 1)
      by_cases q2 : fe F (m - 1) = 2
      · refine ⟨M1, ?_, ?_, o3, o4⟩
        · rw [hstep, if_neg (fun e => by have := (pos_iz (by omega) (by omega)).mp e; omega), iz_m1n (by omega), g_t (inB_n (by omega) (by omega)), clN (by omega), e5, if_pos (show iz (fe F (m - 1) : Int) = (2 : Int32) by rw [q2]; rfl)]
          obtain ⟨f, rfl⟩ : ∃ g, f = g + 1 := ⟨f - 1, by omega⟩
          rw [lq2_s]
          generalize lq2 (f_X9_findByOf_L11 (iz (j : Int))) f = K
          unfold f_X9_findByOf_L11
          rw [if_pos (by decide)]
        · rw [dscS_none m _ (fun i hi => by
            unfold cnd okB
            have : nfB F i j = false := by
              cases hh : nfB F i j with
              | false => rfl
              | true => exact absurd q2 ((nfB_iff j).mp hh m hi (by omega))
            rw [this, Bool.and_false, if_neg (by decide)])]
          exact o2
      · obtain ⟨M', r1, r2, r3, r4⟩ := ih f M1 _ (by omega) (by omega) (fun h => by
          rw [nfB_iff]
          intro k h1 h2
          by_cases q3 : k = m
          · rw [q3]; exact q2
          · exact (nfB_iff j).mp hnf k (by omega) h2) hm1 hF1 hT1 o2 hx1
        refine ⟨M', ?_, r2, fun i hi => ⟨(r3 i hi).1.trans (o3 i hi).1, (r3 i hi).2.trans (o3 i hi).2⟩, o4.tr r4⟩
        rw [hstep, if_neg (fun e => by have := (pos_iz (by omega) (by omega)).mp e; omega), iz_m1n (by omega), g_t (inB_n (by omega) (by omega)), clN (by omega), e5, if_neg (show ¬ iz (fe F (m - 1) : Int) = (2 : Int32) from ne_cnt (i := 2) q2 (by omega) (by omega)), ← iz_m1n (by omega), e1']; exact r1
theorem m_by {v : PV} (hv : okV v) {F : List Fr} (hk : okFs F) {H : Tb} (hH : okT F H) {j : Nat} (hj1 : 1 ≤ j) (hj : j ≤ F.length) {M : Mem} (hm : mPar (rdNow M) v) (hF : mFr M F) (hT : ∀ i, i < j → thenT M i ((H i).map (·.1))) : ∃ M', f_X9_findByOf (iz (j : Int)) M = some M' ∧ nowT M' j ((asc (cnd F v.2.2.2 H j) j).map (·.1)) ∧ (∀ i, i ≠ j → gf M' 164 i = gf M 164 i ∧ gi M' 166 i = gi M 166 i) ∧ kN M M' := by
  have hl := hk.1
  have hs := hv.2.2.2.2.2
  have k0 : kN M (si M 166 j (0 : Int32)) := sameOn.si (by omega)
  obtain ⟨M', r1, r2, r3, r4⟩ := m_byL hv hk hH hj1 hj j FU (si M 166 j (0 : Int32)) none (Nat.le_refl _) (by rw [FU_eq]; omega) (fun _ => by rw [nfB_iff]; intro k h1 h2; omega) (k0.toB.par hv hm) (k0.toB.fr hF) (fun i hi => k0.then (hT i hi)) (by show gi (si M 166 j (0 : Int32)) 166 j = 0; rw [gi_si, if_pos ⟨rfl, rfl⟩]) (fun x hx => by cases hx)
  rw [asc_dsc hk hs hH hj1 hj] at r2
  refine ⟨M', ?_, r2, fun i hi => ⟨(r3 i hi).1, by rw [(r3 i hi).2, gi_si, if_neg (by omega)]⟩, k0.tr r4⟩
  unfold f_X9_findByOf
  have e1' : iz (j : Int) - (1 : Int32) = iz ((j : Int) - 1) := by rw [show (1 : Int32) = iz (1 : Int) from rfl, iz_sub]
  rw [g_t (inB_n (by omega) (by omega)), nmq_q, nmq_q, clN (by omega), e1', r1, b_s1]
theorem m_byRowL {v : PV} (hv : okV v) {F : List Fr} (hk : okFs F) {H : Tb} (hH : okT F H) : ∀ (d f j : Nat) (M : Mem), j + d = F.length → d < f → mPar (rdNow M) v → mFr M F → (∀ i, i ≤ F.length → thenT M i ((H i).map (·.1))) → (∀ i, i ≤ j → nowT M i ((asc (cnd F v.2.2.2 H i) i).map (·.1))) →
    ∃ M', lq2 f_X9_byLines_L57 f (iz ((j + 1 : Nat) : Int)) M = some M' ∧ (∀ i, i ≤ F.length → nowT M' i ((asc (cnd F v.2.2.2 H i) i).map (·.1))) ∧ kN M M' := by
  have hl := hk.1
  intro d
  induction d with
  | zero =>
    intro f j M e1 e2 hm hF hT hN
    obtain ⟨f, rfl⟩ : ∃ g, f = g + 1 := ⟨f - 1, by omega⟩
    refine ⟨M, ?_, fun i hi => hN i (by omega), sameOn.rf⟩
    rw [lq2_s]
    generalize lq2 f_X9_byLines_L57 f = K
    unfold f_X9_byLines_L57
    rw [hF.1, if_pos ((iz_cnt (by omega) (by omega)).1.mpr (by omega))]
  | succ d ih =>
    intro f j M e1 e2 hm hF hT hN
    obtain ⟨f, rfl⟩ : ∃ g, f = g + 1 := ⟨f - 1, by omega⟩
    obtain ⟨M1, r1, r2, r3, r4⟩ := m_by hv hk hH (j := j + 1) (by omega) (by omega) hm hF (fun i hi => hT i (by omega))
    obtain ⟨M', q1, q2, q3⟩ := ih f (j + 1) M1 (by omega) (by omega) (r4.toB.par hv hm) (r4.toB.fr hF) (fun i hi => r4.then (hT i hi)) (fun i hi => by
      by_cases q : i = j + 1
      · rw [q]; exact r2
      · exact (hN i (by omega)).congr (r3 i q).1 (r3 i q).2)
    refine ⟨M', ?_, q2, r4.tr q3⟩
    rw [lq2_s]
    generalize lq2 f_X9_byLines_L57 f = K at q1 ⊢
    unfold f_X9_byLines_L57
    rw [hF.1, if_neg (fun e => by have := (iz_cnt (n := F.length) (m := j + 1) (by omega) (by omega)).1.mp e; omega), r1, b_s1, nmq_q, iz_s]; exact q1
theorem m_byCpL {F : List Fr} (hl : F.length ≤ 160) : ∀ (d f j : Nat) (M : Mem), j + d = F.length + 1 → d < f → gi M 139 25 = iz (F.length : Int) →
    ∃ M', lq2 f_X9_byLines_L78 f (iz (j : Int)) M = some M' ∧ (∀ i, j ≤ i → i ≤ F.length → gi M' 167 i = gi M 166 i ∧ gf M' 165 i = gf M 164 i) ∧ (∀ i, i < j → gi M' 167 i = gi M 167 i ∧ gf M' 165 i = gf M 165 i) ∧ sameOn (fun k => k ≠ 165 ∧ k ≠ 167) M M' := by
  intro d
  induction d with
  | zero =>
    intro f j M e1 e2 h25
    obtain ⟨f, rfl⟩ : ∃ g, f = g + 1 := ⟨f - 1, by omega⟩
    refine ⟨M, ?_, fun i h1 h2 => by omega, fun _ _ => ⟨rfl, rfl⟩, sameOn.rf⟩
    rw [lq2_s]
    generalize lq2 f_X9_byLines_L78 f = K
    unfold f_X9_byLines_L78
    rw [h25, if_pos ((iz_cnt (by omega) (by omega)).1.mpr (by omega))]
  | succ d ih =>
    intro f j M e1 e2 h25
    obtain ⟨f, rfl⟩ : ∃ g, f = g + 1 := ⟨f - 1, by omega⟩
    obtain ⟨M1, hM1⟩ : ∃ M1, M1 = si M 167 j (gi M 166 j) := ⟨_, rfl⟩
    obtain ⟨M2, hM2⟩ : ∃ M2, M2 = sf M1 165 j (gf M1 164 j) := ⟨_, rfl⟩
    have s1 : sameOn (fun k => k ≠ 165 ∧ k ≠ 167) M M1 := by rw [hM1]; exact sameOn.si (by omega)
    have s2 : sameOn (fun k => k ≠ 165 ∧ k ≠ 167) M1 M2 := by rw [hM2]; exact sameOn.sf (by omega)
    have a1 : ∀ i, gi M2 167 i = if i = j then gi M 166 j else gi M 167 i := fun i => by
      have : gi M2 167 i = gi M1 167 i := by rw [hM2]; rfl
      rw [this, hM1, gi_si]
      by_cases q : i = j
      · rw [if_pos ⟨rfl, q⟩, if_pos q]
      · rw [if_neg (by omega), if_neg q]
    have a2 : ∀ i, gf M2 165 i = if i = j then gf M 164 j else gf M 165 i := fun i => by
      have e164 : gf M1 164 j = gf M 164 j := by rw [hM1, gf_si]
      have e165 : gf M1 165 i = gf M 165 i := by rw [hM1, gf_si]
      rw [hM2, gf_sf', e164, e165]
      by_cases q : i = j
      · rw [if_pos ⟨rfl, q⟩, if_pos q]
      · rw [if_neg (by omega), if_neg q]
    have b166 : gi M2 166 = gi M 166 := by rw [(s2 166 (by omega)).1, (s1 166 (by omega)).1]
    have b164 : gf M2 164 = gf M 164 := by rw [(s2 164 (by omega)).2.2, (s1 164 (by omega)).2.2]
    obtain ⟨M', q1, q2, q3, q4⟩ := ih f (j + 1) M2 (by omega) (by omega) (by rw [(s2 139 (by omega)).1, (s1 139 (by omega)).1]; exact h25)
    refine ⟨M', ?_, fun i h1 h2 => ?_, fun i hi => ?_, (s1.tr s2).tr q4⟩
    · rw [lq2_s]
      generalize lq2 f_X9_byLines_L78 f = K at q1 ⊢
      unfold f_X9_byLines_L78
      have hclj : (iz (j : Int) : Int32).toNatClampNeg = j := clN (by omega)
      rw [h25, if_neg (fun e => by have := (iz_cnt (n := F.length) (m := j) (by omega) (by omega)).1.mp e; omega), g_t (inB_n (by omega) (by omega)), g_t (inB_n (by omega) (by omega)), nmq_q, g_t (inB_n (by omega) (by omega)), g_t (inB_n (by omega) (by omega)), nmq_q, nmq_q, hclj, ← hM1, ← hM2, iz_s]; exact q1
    · by_cases q : i = j
      · subst q
        rw [(q3 i (by omega)).1, (q3 i (by omega)).2, a1, a2, if_pos rfl, if_pos rfl]; exact ⟨rfl, rfl⟩
      · rw [(q2 i (by omega) h2).1, (q2 i (by omega) h2).2, b166, b164]; exact ⟨rfl, rfl⟩
    · rw [(q3 i (by omega)).1, (q3 i (by omega)).2, a1, a2, if_neg (by omega), if_neg (by omega)]; exact ⟨rfl, rfl⟩
theorem m_byRowsL {v : PV} (hv : okV v) {F : List Fr} (hk : okFs F) {N : Nat} (hN : N ≤ 20) : ∀ (d f k : Nat) (M : Mem), k + d = N → d < f → mPar (rdNow M) v → mFr M F → (∀ i, i ≤ F.length → thenT M i ((tbK F v.2.2.2 k i).map (·.1))) →
    ∃ M', lq2 (f_X9_byLines_L43 (iz (N : Int))) f (iz (k : Int)) M = some M' ∧ (∀ i, i ≤ F.length → thenT M' i ((tbK F v.2.2.2 N i).map (·.1))) ∧ kB M M' := by
  have hl := hk.1
  have hs := hv.2.2.2.2.2
  intro d
  induction d with
  | zero =>
    intro f k M e1 e2 hm hF hT
    obtain ⟨f, rfl⟩ : ∃ g, f = g + 1 := ⟨f - 1, by omega⟩
    refine ⟨M, ?_, by rw [show N = k by omega]; exact hT, sameOn.rf⟩
    rw [lq2_s]
    generalize lq2 (f_X9_byLines_L43 (iz (N : Int))) f = K
    unfold f_X9_byLines_L43
    rw [if_pos (le_cnt (by omega) (by omega))]
  | succ d ih =>
    intro f k M e1 e2 hm hF hT
    obtain ⟨f, rfl⟩ : ∃ g, f = g + 1 := ⟨f - 1, by omega⟩
    have k0 : kN M (si M 166 0 (0 : Int32)) := sameOn.si (by omega)
    obtain ⟨M2, r1, r2, r3⟩ := m_byRowL hv hk (tbK_ok hk hs k) F.length FU 0 (si M 166 0 (0 : Int32)) (by omega) (by rw [FU_eq]; omega) (k0.toB.par hv hm) (k0.toB.fr hF) (fun i hi => k0.then (hT i hi)) (fun i hi => by
      rw [show i = 0 by omega]
      show gi (si M 166 0 (0 : Int32)) 166 0 = 0
      rw [gi_si, if_pos ⟨rfl, rfl⟩])
    have hF2 : mFr M2 F := r3.toB.fr (k0.toB.fr hF)
    obtain ⟨M3, p1, p2, -, p4⟩ := m_byCpL (F := F) hl (F.length + 1) FU 0 M2 (by omega) (by rw [FU_eq]; omega) hF2.1
    have kk : kB M M3 := (k0.toB.tr r3.toB).tr (p4.mono (fun a ha => by omega))
    obtain ⟨M', q1, q2, q3⟩ := ih f (k + 1) M3 (by omega) (by omega) (kk.par hv hm) (kk.fr hF) (fun i hi => by
      have h1 := r2 i hi
      obtain ⟨h2, h3⟩ := p2 i (Nat.zero_le _) hi
      show thenT M3 i ((asc (cnd F v.2.2.2 (tbK F v.2.2.2 k) i) i).map (·.1))
      unfold thenT
      rw [h2, h3]; exact h1)
    refine ⟨M', ?_, q2, kk.tr q3⟩
    have r1' : lq2 f_X9_byLines_L57 FU (1 : Int32) (si M 166 0 (0 : Int32)) = _ := r1
    have p1' : lq2 f_X9_byLines_L78 FU (0 : Int32) M2 = _ := p1
    rw [lq2_s]
    generalize lq2 (f_X9_byLines_L43 (iz (N : Int))) f = K at q1 ⊢
    unfold f_X9_byLines_L43
    rw [if_neg (nle_cnt (by omega) (by omega)), nmq_q, r1', b_s1, p1', b_s1, nmq_q, iz_s]; exact q1
theorem m_byIniL {F : List Fr} (hl : F.length ≤ 160) : ∀ (d f j : Nat) (M : Mem), j + d = F.length + 1 → d < f → gi M 139 25 = iz (F.length : Int) → (∀ i, i < j → gi M 167 i = 0) →
    ∃ M', lq2 f_X9_byLines_L6 f (iz (j : Int)) M = some M' ∧ (∀ i, i ≤ F.length → gi M' 167 i = 0) ∧ sameOn (fun k => k ≠ 167) M M' := by
  intro d
  induction d with
  | zero =>
    intro f j M e1 e2 h25 h0
    obtain ⟨f, rfl⟩ : ∃ g, f = g + 1 := ⟨f - 1, by omega⟩
    refine ⟨M, ?_, fun i hi => h0 i (by omega), sameOn.rf⟩
    rw [lq2_s]
    generalize lq2 f_X9_byLines_L6 f = K
    unfold f_X9_byLines_L6
    rw [h25, if_pos ((iz_cnt (by omega) (by omega)).1.mpr (by omega))]
  | succ d ih =>
    intro f j M e1 e2 h25 h0
    obtain ⟨f, rfl⟩ : ∃ g, f = g + 1 := ⟨f - 1, by omega⟩
    obtain ⟨M', q1, q2, q3⟩ := ih f (j + 1) (si M 167 j (0 : Int32)) (by omega) (by omega) (by rw [gi_si, if_neg (by omega)]; exact h25) (fun i hi => by
      rw [gi_si]
      by_cases q : i = j
      · rw [if_pos ⟨rfl, q⟩]
      · rw [if_neg (by omega)]; exact h0 i (by omega))
    refine ⟨M', ?_, q2, (sameOn.si (by omega)).tr q3⟩
    rw [lq2_s]
    generalize lq2 f_X9_byLines_L6 f = K at q1 ⊢
    unfold f_X9_byLines_L6
    rw [h25, if_neg (fun e => by have := (iz_cnt (n := F.length) (m := j) (by omega) (by omega)).1.mp e; omega), g_t (inB_n (by omega) (by omega)), nmq_q, nmq_q, clN (by omega), iz_s]; exact q1
theorem m_byLines {v : PV} (hv : okV v) {M : Mem} (hm : mPar (rdNow M) v) {N : Nat} (hN : N ≤ 20) (hN1 : 1 ≤ N) : ∃ M', f_X9_byLines (iz (N : Int)) M = some (totB (tbK (frs v 0 v.1) v.2.2.2 N (frs v 0 v.1).length), M') ∧ keepM M M' := by
  have hk : okFs (frs v 0 v.1) := frs_okFs hv (fun q hq => hq) (Nat.le_refl _)
  have hl := hk.1
  have hs := hv.2.2.2.2.2
  obtain ⟨M1, f1, f2, f3⟩ := m_findF hv hm
  have hm1 := f3.par hv hm
  generalize frs v 0 v.1 = F at hk hl f2 ⊢
  obtain ⟨M2, i1, i2, i3⟩ := m_byIniL (F := F) hl (F.length + 1) FU 0 M1 (by omega) (by rw [FU_eq]; omega) f2.1 (fun i hi => by omega)
  obtain ⟨M4, e4⟩ : ∃ M4, M4 = sf (si M2 167 0 (1 : Int32)) 165 0 FP.fconst0 := ⟨_, rfl⟩
  have k4 : kB M1 M4 := by rw [e4]; exact ((i3.mono (fun a ha => by omega)).tr (sameOn.si (by omega))).tr (sameOn.sf (by omega))
  have hT4 : ∀ i, i ≤ F.length → thenT M4 i ((tbK F v.2.2.2 0 i).map (·.1)) := fun i hi => by
    show thenT M4 i ((if i = 0 then some (FP.fconst0, 0) else none : Option (UInt32 × Nat)).map (·.1))
    have a167 : gi M4 167 i = gi (si M2 167 0 (1 : Int32)) 167 i := by rw [e4]; rfl
    by_cases q : i = 0
    · rw [if_pos q]
      refine ⟨?_, ?_⟩
      · rw [a167, gi_si, if_pos ⟨rfl, q⟩]
      · rw [e4, gf_sf', if_pos ⟨rfl, q⟩]
    · rw [if_neg q]
      show gi M4 167 i = 0
      rw [a167, gi_si, if_neg (by omega)]; exact i2 i hi
  obtain ⟨M5, r1, r2, r3⟩ := m_byRowsL hv hk hN N FU 0 M4 (by omega) (by rw [FU_eq]; omega) (k4.par hv hm1) (k4.fr f2) hT4
  have hF5 := r3.fr (k4.fr f2)
  refine ⟨M5, ?_, (f3.keep.tr k4.keep).tr r3.keep⟩
  have i1' : lq2 f_X9_byLines_L6 FU (0 : Int32) M1 = _ := i1
  have r1' : lq2 (f_X9_byLines_L43 (iz (N : Int))) FU (0 : Int32) M4 = _ := r1
  have hclF : (iz (F.length : Int) : Int32).toNatClampNeg = F.length := clN (by omega)
  have hTn := r2 F.length (Nat.le_refl _)
  have htot := tbK_ok hk hs N F.length
  unfold f_X9_byLines
  rw [f1, b_s1, i1', b_s1, nmq_q, nmq_q, ← e4, r1', b_s1, hF5.1, g_t (inB_n (by omega) (by omega))]
  cases hb : tbK F v.2.2.2 N F.length with
  | none =>
    rw [hb] at hTn
    have hTn : gi M5 167 F.length = 0 := hTn
    rw [if_neg (show ¬ gi M5 167 ((iz (F.length : Int) : Int32).toNatClampNeg) = (1 : Int32) by rw [hclF, hTn]; decide)]; rfl
  | some x =>
    rw [hb] at hTn
    have hTn : gi M5 167 F.length = 1 ∧ gf M5 165 F.length = x.1 := hTn
    rw [if_pos (show gi M5 167 ((iz (F.length : Int) : Int32).toNatClampNeg) = (1 : Int32) by rw [hclF]; exact hTn.1), g_t (inB_n (by omega) (by omega)), hclF, hTn.2, m_bits (nn_ne (htot x (Nat.le_refl _) hb).1), b_s1]; rfl
theorem op_total {M : Mem} (hI : Inv M) (p : Int32) : both M (f_X8_total p) (f_X9_total p) := by
  obtain ⟨z, z1, z2, rfl⟩ := iz_ex p
  have ei : f_X9_isIn (iz z) (1 : Int32) (20 : Int32) = _ := m_isIn (z := z) (lo := 1) (hi := 20) z1 z2 (by omega) (by omega) (by omega) (by omega)
  have j1 : (iz z < (0 : Int32)) ↔ z < 0 := iz_lt (a := z) (b := 0) z1 z2 (by omega) (by omega)
  have j2 : (iz z ≤ (20 : Int32)) ↔ z ≤ 20 := iz_le (a := z) (b := 20) z1 z2 (by omega) (by omega)
  have j3 : (iz z = (0 : Int32)) ↔ z = 0 := iz_eq (a := z) (b := 0) z1 z2 (by omega) (by omega)
  by_cases q1 : z < 0
  · refine both_ask hI (r := 0) ⟨M, keepC.rf, ?_⟩ (fun M' _ => ⟨M', keepM.rf, ?_⟩)
    · unfold f_X8_total
      rw [if_pos (j1.mpr q1)]
    · rw [if_neg (by omega)] at ei
      unfold f_X9_total
      rw [ei, b_s1, if_pos rfl, if_neg (fun e => by have := j3.mp e; omega)]
  by_cases q2 : z ≤ 20
  case neg =>
    refine both_ask hI (r := 0) ⟨M, keepC.rf, ?_⟩ (fun M' _ => ⟨M', keepM.rf, ?_⟩)
    · unfold f_X8_total
      rw [if_neg (fun e => q1 (j1.mp e)), if_neg (fun e => q2 (j2.mp e))]
    · rw [if_neg (by omega)] at ei
      unfold f_X9_total
      rw [ei, b_s1, if_pos rfl, if_neg (fun e => by have := j3.mp e; omega)]
  have hI' := hI
  obtain ⟨now, img, st, ct, hist, ls, rw_, R, hg, hC, hM⟩ := hI
  have hv := hg.1.1
  have hs := hv.2.2.2.2.2
  have hk : okFs (frs now 0 now.1) := frs_okFs hv (fun q hq => hq) (Nat.le_refl _)
  have hl := hk.1
  obtain ⟨Mc, r1, r2, r3, r4, r5⟩ := c_set (p := 1) (Or.inl rfl) hv hC.1 (g := 0) (by omega)
  rw [leftW_0] at r1 r2 r3
  have r1' : f_X6_set 1 (0 : Int32) M = _ := r1
  have k5 : keepC M Mc := keepC.of (r5.mono (fun a ha => by omega))
  have hcM : cPar Mc 1 now := hC.1.same (r5.mono (fun a ha => by omega))
  by_cases q3 : z = 0
  · subst q3
    refine both_ask hI' (r := totB (bst (frs now 0 now.1) now.2.2.2 (frs now 0 now.1).length)) ⟨Mc, k5, ?_⟩ (fun M' hs' => ?_)
    · unfold f_X8_total
      rw [if_neg (fun e => q1 (j1.mp e)), if_pos (j2.mpr q2), r1', b_s2, if_pos (j3.mpr rfl), c_least hk r3 r2, b_s1, b_s2, c_botT hk hs, b_s1]
    · have hm := (hM.same hg hs').1
      obtain ⟨M2, f1, f2, f3, f4⟩ := m_find hv hm
      obtain ⟨x, t1, t2⟩ := m_total hk f3 f2
      have hneg := cnt_neg hk (s := now.2.2.2)
      refine ⟨M2, f4.keep, ?_⟩
      rw [if_neg (by omega)] at ei
      unfold f_X9_total
      rw [ei, b_s1, if_pos rfl, if_pos (j3.mpr rfl), f1, b_s2]
      cases hb : bst (frs now 0 now.1) now.2.2.2 (frs now 0 now.1).length with
      | none => rw [if_pos (hneg.mpr hb)]; rfl
      | some y =>
        rw [hb] at t2
        have t2 : x = y.1 := t2 rfl
        have ht := bst_ok hk hs (frs now 0 now.1).length (frs now 0 now.1).length (Nat.le_refl _) (Nat.le_refl _) y hb
        rw [if_neg (fun e => by have := hneg.mp e; rw [hb] at this; cases this), t1, b_s1, t2, m_bits (nn_ne ht.1), b_s1]; rfl
  · obtain ⟨N, rfl⟩ : ∃ w : Nat, z = (w : Int) := ⟨z.toNat, by omega⟩
    refine both_ask hI' (r := totB (tbK (frs now 0 now.1) now.2.2.2 N (frs now 0 now.1).length)) ?_ (fun M' hs' => ?_)
    · obtain ⟨M2, p1, p2⟩ := c_totBy hv hcM hk r3 (N := N) (by omega)
      refine ⟨M2, k5.tr (keepC.of (p2.mono (fun a ha => by omega))), ?_⟩
      unfold f_X8_total
      rw [if_neg (fun e => q1 (j1.mp e)), if_pos (j2.mpr q2), r1', b_s2, if_neg (fun e => q3 (j3.mp e)), p1, b_s2, b_s2, c_botV (tbK_ok hk hs N) (Nat.le_refl _) (fun e => by
        obtain ⟨k, rfl⟩ : ∃ k, N = k + 1 := ⟨N - 1, by omega⟩
        rw [e]; rfl), b_s1]
    · have hm := (hM.same hg hs').1
      obtain ⟨M2, p1, p2⟩ := m_byLines hv hm (N := N) (by omega) (by omega)
      refine ⟨M2, p2, ?_⟩
      rw [if_pos (by omega)] at ei
      unfold f_X9_total
      rw [ei, b_s1, if_neg (by decide), p1, b_s2]
