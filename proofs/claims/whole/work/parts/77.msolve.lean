/-! the reference solves -/
theorem mFr.same {M M' : Mem} {F : List Fr} (h : mFr M F) (hs : sameOn (fun k => 149 ≤ k ∧ k < 153) M M') (h25 : gi M' 139 25 = gi M 139 25) : mFr M' F := by
  obtain ⟨h0, h1, h2⟩ := h
  refine ⟨h25.trans h0, fun i hi => ?_, fun i hi => ?_⟩
  · rw [(hs 149 (by omega)).1, (hs 150 (by omega)).1]; exact h1 i hi
  · rw [(hs 151 (by omega)).1, (hs 152 (by omega)).1]; exact h2 i hi
theorem frs_okFs {v : PV} (hv : okV v) {l : List Word} (h1 : ∀ q ∈ l, q ∈ v.1) (h2 : l.length ≤ v.1.length) : okFs (frs v 0 l) := by
  have h16 := hv.1
  have := frs_ok (v := v) hv.2.2.2.2.1 l 0 (fun q hq => hv.2.1 q (h1 q hq)) (by omega)
  exact ⟨by have := this.2; omega, this.1⟩
def kS (M M' : Mem) : Prop := sameOn (fun k => k ≠ 153 ∧ k ≠ 154) M M'
theorem kS.par {M M' : Mem} {v : PV} (h : kS M M') (hv : okV v) (hm : mPar (rdNow M) v) : mPar (rdNow M') v := hm.congr hv (rdNow.congr (h.mono (fun a ha => by omega)) (fun j _ _ => by rw [(h 139 (by omega)).1]))
theorem kS.fr {M M' : Mem} {F : List Fr} (h : kS M M') (hF : mFr M F) : mFr M' F := hF.same (h.mono (fun a ha => by omega)) (by rw [(h 139 (by omega)).1])
/-- a place of the reference's rows -/
def mAt (M : Mem) (j : Nat) (t : Option (UInt32 × Nat)) : Prop := match t with
  | none => gi M 154 j = (-9 : Int32)
  | some x => gf M 153 j = x.1 ∧ gi M 154 j = iz (x.2 : Int)
theorem mAt.neg {M : Mem} {j : Nat} {t : Option (UInt32 × Nat)} (h : mAt M j t) (hx : ∀ x, t = some x → x.2 < 5000) : gi M 154 j < 0 ↔ t = none := by
  cases t with
  | none =>
    have h : gi M 154 j = (-9 : Int32) := h
    rw [h]; exact ⟨fun _ => rfl, fun _ => by decide⟩
  | some x =>
    have h := h.2
    rw [h]
    exact ⟨fun e => absurd e (not_neg _ (by have := hx x rfl; omega)), fun e => by cases e⟩
def mTb (M : Mem) (F : List Fr) (s : Nat → Int) (m : Nat) : Prop := gf M 153 0 = FP.fconst0 ∧ gi M 154 0 = (-9 : Int32) ∧ ∀ j, 1 ≤ j → j ≤ m → mAt M j (bst F s j)
theorem dsc_none {C : Nat → Option UInt32} : ∀ m t, (∀ i, i < m → C i = none) → dsc C m t = t
  | 0, _, _ => rfl
  | m + 1, t, h => by
    show dsc C m (updD t (C m) m) = t
    rw [h m (by omega)]
    exact dsc_none m t (fun i hi => h i (by omega))
theorem m_bestL {v : PV} (hv : okV v) {F : List Fr} (hk : okFs F) {j : Nat} (hj1 : 1 ≤ j) (hj : j ≤ F.length) : ∀ (m f : Nat) (M : Mem) (t : Option (UInt32 × Nat)), m ≤ j → m < f → (1 ≤ m → nfB F (m - 1) j = true) → mPar (rdNow M) v → mFr M F → mTb M F v.2.2.2 (j - 1) → mAt M j t → (∀ x, t = some x → nn x.1 ∧ x.2 < j) →
    ∃ M', lq2 (f_X9_findBestOf_L12 (iz (j : Int))) f (iz ((m : Int) - 1)) M = some M' ∧ mAt M' j (dsc (cnd F v.2.2.2 (bst F v.2.2.2) j) m t) ∧ (∀ i, i ≠ j → gf M' 153 i = gf M 153 i ∧ gi M' 154 i = gi M 154 i) ∧ kS M M' := by
  have hl := hk.1
  have hs := hv.2.2.2.2.2
  intro m
  induction m with
  | zero =>
    intro f M t e1 e2 e3 hm hF hT hA hx
    obtain ⟨f, rfl⟩ : ∃ g, f = g + 1 := ⟨f - 1, by omega⟩
    refine ⟨M, ?_, hA, fun _ _ => ⟨rfl, rfl⟩, sameOn.rf⟩
    rw [lq2_s]
    generalize lq2 (f_X9_findBestOf_L12 (iz (j : Int))) f = K
    unfold f_X9_findBestOf_L12
    rw [if_pos (by decide)]
  | succ m ih =>
    intro f M t e1 e2 e3 hm hF hT hA hx
    obtain ⟨f, rfl⟩ : ∃ g, f = g + 1 := ⟨f - 1, by omega⟩
    have hnf : nfB F m j = true := e3 (by omega)
    have em : ((m + 1 : Nat) : Int) - 1 = (m : Int) := by omega
    -- the value at m
    have hbm : m = 0 ∨ 1 ≤ m := by omega
    have hfit := hF.fit hv hm hk (i := m) (j := j) (by omega) hj
    have hok : okB F v.2.2.2 m j = fitV F v.2.2.2 m j := by unfold okB; rw [hnf, Bool.and_true]
    have hcnd : cnd F v.2.2.2 (bst F v.2.2.2) j m = (if fitV F v.2.2.2 m j = true then (bst F v.2.2.2 m).map (fun b => FP.fadd b.1 (demV F v.2.2.2 m j)) else none) := by unfold cnd; rw [hok]
    have hAneg := hA.neg (fun x hx' => by have := (hx x hx').2; omega)
    -- one step of the row
    have hset : ∀ (d : UInt32), nn d → ∃ M1, (gq (inB (iz (j : Int)) 161) ((jq (fun (_ : Unit) => (gq (inB (iz (j : Int)) 161) (nmq (sf M 153 ((iz (j : Int) : Int32).toNatClampNeg) d) (fun (M36 : Mem) => gq (inB (iz (j : Int)) 161) (nmq (si M36 154 ((iz (j : Int) : Int32).toNatClampNeg) (iz (m : Int))) (fun (M38 : Mem) => (some (M38)))))))) (fun (K34 : Unit → Option (Mem)) => (if (gi M 154 ((iz (j : Int) : Int32).toNatClampNeg)) < 0 then (K34 ()) else (gq (inB (iz (j : Int)) 161) ((if 0 < (fcg d (gf M 153 ((iz (j : Int) : Int32).toNatClampNeg))) then (some (M)) else (K34 ()))))))))) = some M1 ∧ mAt M1 j (updD t (some d) m) ∧ (∀ i, i ≠ j → gf M1 153 i = gf M 153 i ∧ gi M1 154 i = gi M 154 i) ∧ kS M M1 := by
      intro d hd
      obtain ⟨Ms, hMs⟩ : ∃ Ms, Ms = si (sf M 153 j d) 154 j (iz (m : Int)) := ⟨_, rfl⟩
      have sMs : kS M Ms := by rw [hMs]; exact (sameOn.sf (by omega)).tr (sameOn.si (by omega))
      have aMs : mAt Ms j (some (d, m)) := by
        refine ⟨?_, ?_⟩
        · rw [hMs, gf_si, gf_sf', if_pos ⟨rfl, rfl⟩]
        · rw [hMs, gi_si, if_pos ⟨rfl, rfl⟩]
      have oMs : ∀ i, i ≠ j → gf Ms 153 i = gf M 153 i ∧ gi Ms 154 i = gi M 154 i := fun i hi => ⟨by rw [hMs, gf_si, gf_sf', if_neg (by omega)], by rw [hMs, gi_si, if_neg (by omega)]; rfl⟩
      rw [g_t (inB_n (by omega) (by omega)), jq_q, g_t (inB_n (by omega) (by omega)), nmq_q, g_t (inB_n (by omega) (by omega)), nmq_q]
      simp only [clN (show j < 5000 by omega)]
      rw [← hMs]
      cases t with
      | none =>
        refine ⟨Ms, ?_, aMs, oMs, sMs⟩
        rw [if_pos (hAneg.mpr rfl)]
      | some y =>
        have hy := hx y rfl
        rw [if_neg (fun e => by have := hAneg.mp e; cases this), g_t (inB_n (by omega) (by omega)), hA.1, (fc_val (nn_ne hd) (nn_ne hy.1)).1]
        show ∃ M1, _ ∧ mAt M1 j (if zv d ≤ zv y.1 then some (d, m) else some y) ∧ _
        by_cases q : zv d ≤ zv y.1
        · refine ⟨Ms, ?_, ?_, oMs, sMs⟩
          · rw [if_neg (fun e => by have := cmp3_gt.mp e; omega)]
          · rw [if_pos q]; exact aMs
        · refine ⟨M, ?_, ?_, fun _ _ => ⟨rfl, rfl⟩, sameOn.rf⟩
          · rw [if_pos (cmp3_gt.mpr (by omega))]
          · rw [if_neg q]; exact hA
    -- what the whole step makes of the row
    obtain ⟨M1, o1, o2, o3, o4⟩ : ∃ M1, ((jq (fun (_ : Unit) => (bq1 (f_X9_fits (iz (m : Int)) (iz (j : Int)) M) (fun (x24 : Int32) => (if x24 = 0 then (some (M)) else (gq (inB (iz (m : Int)) 161) (bq1 (f_X9_demeritsOf (iz (m : Int)) (iz (j : Int)) M) (fun (x28 : UInt32) => nmq (FP.fadd (gf M 153 ((iz (m : Int) : Int32).toNatClampNeg)) x28) (fun (x30 : UInt32) => gq (nN x30) (gq (inB (iz (j : Int)) 161) ((jq (fun (_ : Unit) => (gq (inB (iz (j : Int)) 161) (nmq (sf M 153 ((iz (j : Int) : Int32).toNatClampNeg) x30) (fun (M36 : Mem) => gq (inB (iz (j : Int)) 161) (nmq (si M36 154 ((iz (j : Int) : Int32).toNatClampNeg) (iz (m : Int))) (fun (M38 : Mem) => (some (M38)))))))) (fun (K34 : Unit → Option (Mem)) => (if (gi M 154 ((iz (j : Int) : Int32).toNatClampNeg)) < 0 then (K34 ()) else (gq (inB (iz (j : Int)) 161) ((if 0 < (fcg x30 (gf M 153 ((iz (j : Int) : Int32).toNatClampNeg))) then (some (M)) else (K34 ()))))))))))))))))) (fun (K23 : Unit → Option (Mem)) => (if iz (m : Int) = 0 then (K23 ()) else (gq (inB (iz (m : Int)) 161) ((if (gi M 154 ((iz (m : Int) : Int32).toNatClampNeg)) < 0 then (some (M)) else (K23 ()))))))) : Option (Mem)) = some M1 ∧ mAt M1 j (updD t (cnd F v.2.2.2 (bst F v.2.2.2) j m) m) ∧ (∀ i, i ≠ j → gf M1 153 i = gf M 153 i ∧ gi M1 154 i = gi M 154 i) ∧ kS M M1 := by
      have hgo : ∀ (b : UInt32), (∃ y, bst F v.2.2.2 m = some y ∧ y.1 = b) → gf M 153 m = b → ∃ M1, (bq1 (f_X9_fits (iz (m : Int)) (iz (j : Int)) M) (fun (x24 : Int32) => (if x24 = 0 then (some (M)) else (gq (inB (iz (m : Int)) 161) (bq1 (f_X9_demeritsOf (iz (m : Int)) (iz (j : Int)) M) (fun (x28 : UInt32) => nmq (FP.fadd (gf M 153 ((iz (m : Int) : Int32).toNatClampNeg)) x28) (fun (x30 : UInt32) => gq (nN x30) (gq (inB (iz (j : Int)) 161) ((jq (fun (_ : Unit) => (gq (inB (iz (j : Int)) 161) (nmq (sf M 153 ((iz (j : Int) : Int32).toNatClampNeg) x30) (fun (M36 : Mem) => gq (inB (iz (j : Int)) 161) (nmq (si M36 154 ((iz (j : Int) : Int32).toNatClampNeg) (iz (m : Int))) (fun (M38 : Mem) => (some (M38)))))))) (fun (K34 : Unit → Option (Mem)) => (if (gi M 154 ((iz (j : Int) : Int32).toNatClampNeg)) < 0 then (K34 ()) else (gq (inB (iz (j : Int)) 161) ((if 0 < (fcg x30 (gf M 153 ((iz (j : Int) : Int32).toNatClampNeg))) then (some (M)) else (K34 ())))))))))))))))) = some M1 ∧ mAt M1 j (updD t (cnd F v.2.2.2 (bst F v.2.2.2) j m) m) ∧ (∀ i, i ≠ j → gf M1 153 i = gf M 153 i ∧ gi M1 154 i = gi M 154 i) ∧ kS M M1 := by
        rintro b ⟨y, hy, hyb⟩ hgb
        have htot := bst_ok hk hs m m (by omega) (by omega) y hy
        rw [hcnd, hy]
        by_cases q : fitV F v.2.2.2 m j = true
        · have hta := tot_add hk hs (i := m) (j := j) (by omega) hj q htot
          obtain ⟨M1, p1, p2, p3, p4⟩ := hset (FP.fadd y.1 (demV F v.2.2.2 m j)) hta.1
          refine ⟨M1, ?_, ?_, p3, p4⟩
          · rw [hfit, b_s1, if_pos q, if_neg (by decide), g_t (inB_n (by omega) (by omega)), hF.dem hv hm hk (by omega) hj q, b_s1, nmq_q, show (iz (m : Int) : Int32).toNatClampNeg = m from clN (by omega), hgb, ← hyb, g_t (nN_of (nn_ne hta.1))]
            exact p1
          · rw [if_pos q]; exact p2
        · refine ⟨M, ?_, ?_, fun _ _ => ⟨rfl, rfl⟩, sameOn.rf⟩
          · rw [hfit, b_s1, if_neg q, if_pos rfl]
          · rw [if_neg q]; exact hA
      rw [jq_q]
      rcases hbm with h0 | h1
      · have e0 : iz (m : Int) = 0 := by rw [h0]; rfl
        obtain ⟨M1, p⟩ := hgo FP.fconst0 ⟨(FP.fconst0, 0), by rw [h0, bst_0], rfl⟩ (by rw [h0]; exact hT.1)
        refine ⟨M1, ?_, p.2⟩
        rw [if_pos e0]; exact p.1
      · have hAm := hT.2.2 m h1 (by omega)
        have hnegm := hAm.neg (fun x hx' => by have := (bst_some h1 hx').1; omega)
        rw [if_neg (show ¬ iz (m : Int) = 0 from ne_cnt (i := 0) (by omega) (by omega) (by omega)), g_t (inB_n (by omega) (by omega))]
        have hnegm' : gi M 154 ((iz (m : Int) : Int32).toNatClampNeg) < 0 ↔ bst F v.2.2.2 m = none := by rw [show (iz (m : Int) : Int32).toNatClampNeg = m from clN (by omega)]; exact hnegm
        cases hb : bst F v.2.2.2 m with
        | none =>
          refine ⟨M, ?_, ?_, fun _ _ => ⟨rfl, rfl⟩, sameOn.rf⟩
          · rw [if_pos (hnegm'.mpr hb)]
          · rw [hcnd, hb]
            by_cases q : fitV F v.2.2.2 m j = true
            · rw [if_pos q]; exact hA
            · rw [if_neg q]; exact hA
        | some y =>
          rw [hb] at hAm
          obtain ⟨M1, p⟩ := hgo y.1 ⟨y, hb, rfl⟩ hAm.1
          refine ⟨M1, ?_, p.2⟩
          rw [if_neg (fun e => by have := hnegm'.mp e; rw [hb] at this; cases this)]
          exact p.1
    have hm1 := o4.par hv hm
    have hF1 := o4.fr hF
    have hT1 : mTb M1 F v.2.2.2 (j - 1) := by
      refine ⟨by rw [(o3 0 (by omega)).1]; exact hT.1, by rw [(o3 0 (by omega)).2]; exact hT.2.1, fun i h1 h2 => ?_⟩
      have := hT.2.2 i h1 h2
      unfold mAt at this ⊢
      rw [(o3 i (by omega)).1, (o3 i (by omega)).2]; exact this
    have hx1 : ∀ x, updD t (cnd F v.2.2.2 (bst F v.2.2.2) j m) m = some x → nn x.1 ∧ x.2 < j := by
      intro x hx'
      have hnew : ∀ d, cnd F v.2.2.2 (bst F v.2.2.2) j m = some d → nn d := by
        intro d hd
        rw [hcnd] at hd
        by_cases q : fitV F v.2.2.2 m j = true
        · rw [if_pos q] at hd
          cases hb : bst F v.2.2.2 m with
          | none => rw [hb] at hd; cases hd
          | some y =>
            rw [hb] at hd
            have hd : some (FP.fadd y.1 (demV F v.2.2.2 m j)) = some d := hd
            rw [← Option.some.inj hd]
            exact (tot_add hk hs (i := m) (j := j) (by omega) hj q (bst_ok hk hs m m (by omega) (by omega) y hb)).1
        · rw [if_neg q] at hd; cases hd
      cases hc : cnd F v.2.2.2 (bst F v.2.2.2) j m with
      | none => rw [hc] at hx'; exact hx x hx'
      | some d =>
        rw [hc] at hx'
        have hd := hnew d hc
        cases t with
        | none =>
          have hx' : some (d, m) = some x := hx'
          cases hx'; exact ⟨hd, by show m < j; omega⟩
        | some y =>
          have hx' : (if zv d ≤ zv y.1 then some (d, m) else some y) = some x := hx'
          by_cases q : zv d ≤ zv y.1
          · rw [if_pos q] at hx'; cases hx'; exact ⟨hd, by show m < j; omega⟩
          · rw [if_neg q] at hx'; cases hx'; exact hx _ rfl
    have hstep : lq2 (f_X9_findBestOf_L12 (iz (j : Int))) (f + 1) (iz (((m + 1 : Nat) : Int) - 1)) M = (if iz (m : Int) ≤ 0 then lq2 (f_X9_findBestOf_L12 (iz (j : Int))) f (iz (m : Int) - (1 : Int32)) M1 else (gq (inB (iz (m : Int) - (1 : Int32)) 161) (if (gi M1 151 ((iz (m : Int) - (1 : Int32)) : Int32).toNatClampNeg) = (2 : Int32) then lq2 (f_X9_findBestOf_L12 (iz (j : Int))) f (-1 : Int32) M1 else lq2 (f_X9_findBestOf_L12 (iz (j : Int))) f (iz (m : Int) - (1 : Int32)) M1))) := by
      rw [lq2_s, em]
      generalize lq2 (f_X9_findBestOf_L12 (iz (j : Int))) f = K
      unfold f_X9_findBestOf_L12
      rw [if_neg (not_neg m (by omega))]
      refine (b1_some o1).trans ?_
      rw [jq_q]; rfl
    have e1' : iz (m : Int) - (1 : Int32) = iz ((m : Int) - 1) := by rw [show (1 : Int32) = iz (1 : Int) from rfl, iz_sub]
    show ∃ M', _ ∧ mAt M' j (dsc (cnd F v.2.2.2 (bst F v.2.2.2) j) m (updD t (cnd F v.2.2.2 (bst F v.2.2.2) j m) m)) ∧ _
    by_cases q0 : m = 0
    · obtain ⟨M', r1, r2, r3, r4⟩ := ih f M1 _ (by omega) (by omega) (fun h => by omega) hm1 hF1 hT1 o2 hx1
      refine ⟨M', ?_, r2, fun i hi => ⟨(r3 i hi).1.trans (o3 i hi).1, (r3 i hi).2.trans (o3 i hi).2⟩, o4.tr r4⟩
      rw [hstep, if_pos ((pos_iz (by omega) (by omega)).mpr (by omega)), e1']; exact r1
    · have e5 := (hF1.2.2 (m - 1) (by omega)).1
      have hb5 := fw_b hk (m - 1)
      by_cases q2 : fe F (m - 1) = 2
      · refine ⟨M1, ?_, ?_, o3, o4⟩
        · rw [hstep, if_neg (fun e => by have := (pos_iz (by omega) (by omega)).mp e; omega), iz_m1n (by omega), g_t (inB_n (by omega) (by omega)), clN (by omega), e5, if_pos (show iz (fe F (m - 1) : Int) = (2 : Int32) by rw [q2]; rfl)]
          obtain ⟨f, rfl⟩ : ∃ g, f = g + 1 := ⟨f - 1, by omega⟩
          rw [lq2_s]
          generalize lq2 (f_X9_findBestOf_L12 (iz (j : Int))) f = K
          unfold f_X9_findBestOf_L12
          rw [if_pos (by decide)]
        · rw [dsc_none m _ (fun i hi => by
            unfold cnd okB
            have : nfB F i j = false := by
              cases hh : nfB F i j with
              | false => rfl
              | true => exact absurd q2 ((nfB_iff j).mp hh m hi (by omega))
            rw [this, Bool.and_false, if_neg (by decide)])]
          exact o2
      · obtain ⟨M', r1, r2, r3, r4⟩ := ih f M1 _ (by omega) (by omega) (fun h => by
          rw [nfB_iff]
          intro k h1 h2
          by_cases q3 : k = m
          · rw [q3]; exact q2
          · exact (nfB_iff j).mp hnf k (by omega) h2) hm1 hF1 hT1 o2 hx1
        refine ⟨M', ?_, r2, fun i hi => ⟨(r3 i hi).1.trans (o3 i hi).1, (r3 i hi).2.trans (o3 i hi).2⟩, o4.tr r4⟩
        rw [hstep, if_neg (fun e => by have := (pos_iz (by omega) (by omega)).mp e; omega), iz_m1n (by omega), g_t (inB_n (by omega) (by omega)), clN (by omega), e5, if_neg (show ¬ iz (fe F (m - 1) : Int) = (2 : Int32) from ne_cnt (i := 2) q2 (by omega) (by omega)), ← iz_m1n (by omega), e1']; exact r1
theorem m_best {v : PV} (hv : okV v) {F : List Fr} (hk : okFs F) {j : Nat} (hj1 : 1 ≤ j) (hj : j ≤ F.length) {M : Mem} (hm : mPar (rdNow M) v) (hF : mFr M F) (hT : mTb M F v.2.2.2 (j - 1)) : ∃ M', f_X9_findBestOf (iz (j : Int)) M = some M' ∧ mTb M' F v.2.2.2 j ∧ kS M M' := by
  have hl := hk.1
  have k0 : kS M (si M 154 j (-9 : Int32)) := sameOn.si (by omega)
  have hT0 : mTb (si M 154 j (-9 : Int32)) F v.2.2.2 (j - 1) := by
    refine ⟨hT.1, by rw [gi_si, if_neg (by omega)]; exact hT.2.1, fun i h1 h2 => ?_⟩
    have := hT.2.2 i h1 h2
    unfold mAt at this ⊢
    rw [gf_si, gi_si, if_neg (by omega)]; exact this
  obtain ⟨M', r1, r2, r3, r4⟩ := m_bestL hv hk hj1 hj j FU (si M 154 j (-9 : Int32)) none (Nat.le_refl _) (by rw [FU_eq]; omega) (fun _ => by rw [nfB_iff]; intro k h1 h2; omega) (k0.par hv hm) (k0.fr hF) hT0 (by show gi (si M 154 j (-9 : Int32)) 154 j = (-9 : Int32); rw [gi_si, if_pos ⟨rfl, rfl⟩]) (fun x hx => by cases hx)
  rw [dsc_asc] at r2
  refine ⟨M', ?_, ⟨by rw [(r3 0 (by omega)).1]; exact hT0.1, by rw [(r3 0 (by omega)).2]; exact hT0.2.1, fun i h1 h2 => ?_⟩, k0.tr r4⟩
  · unfold f_X9_findBestOf
    rw [g_t (inB_n (by omega) (by omega)), nmq_q, nmq_q, clN (by omega)]
    have e1' : iz (j : Int) - (1 : Int32) = iz ((j : Int) - 1) := by rw [show (1 : Int32) = iz (1 : Int) from rfl, iz_sub]
    rw [e1', r1, b_s1]
  · by_cases q : i = j
    · rw [q]
      obtain ⟨t, rfl⟩ : ∃ t, j = t + 1 := ⟨j - 1, by omega⟩
      rw [bst_s]; exact r2
    · have := hT0.2.2 i h1 (by omega)
      unfold mAt at this ⊢
      rw [(r3 i q).1, (r3 i q).2]; exact this
