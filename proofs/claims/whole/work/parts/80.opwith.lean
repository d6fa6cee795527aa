/-! with, narrowest, two -/
theorem okS_up0 {f : Nat → Int} (h : okS f) {z : Int} (h1 : 10 ≤ z) (h2 : z ≤ 80) : okS (up f 0 z) := by
  obtain ⟨_, a⟩ := h
  exact ⟨⟨h1, h2⟩, a⟩
theorem keepC.lw {M M' : Mem} (h : sameOn (fun a => a < 12 ∨ (23 ≤ a ∧ a < 126) ∨ a = 134 ∨ a = 135 ∨ 137 ≤ a) M M') : keepC M M' := keepC.of (h.mono (fun a ha => by omega))
theorem op_with {M : Mem} (hI : Inv M) (p : Int32) : both M (f_X8_with p) (f_X9_with p) := by
  obtain ⟨z, z1, z2, rfl⟩ := iz_ex p
  have ef : f_X8_outside (iz z) (10 : Int32) (60 : Int32) = _ := c_outside (z := z) (lo := 10) (hi := 60) z1 z2 (by omega) (by omega) (by omega) (by omega)
  have eg : f_X9_bound (iz z) (10 : Int32) (60 : Int32) = _ := m_bound (z := z) (lo := 10) (hi := 60) z1 z2 (by omega) (by omega) (by omega) (by omega)
  have hf2 : ∀ M, f_X8_with (iz z) M = _ := fun M => b1_some ef
  have hg2 : ∀ M, f_X9_with (iz z) M = _ := fun M => b1_some eg
  by_cases q1 : z < 10
  · rw [if_pos q1] at hf2 hg2
    refine both_no hI (v := 4) (by omega) ((hf2 M).trans ?_) (fun M' => (hg2 M').trans ?_)
    · show (if (iz (-4 : Int)) = 0 then _ else _) = _
      rw [if_neg (by decide), b2_id]; rfl
    · show (if (iz (-4 : Int)) = 0 then _ else _) = _
      rw [if_neg (by decide), b2_id]; rfl
  by_cases q2 : 60 < z
  · rw [if_neg q1, if_pos q2] at hf2 hg2
    refine both_no hI (v := 6) (by omega) ((hf2 M).trans ?_) (fun M' => (hg2 M').trans ?_)
    · show (if (iz (-6 : Int)) = 0 then _ else _) = _
      rw [if_neg (by decide), b2_id]; rfl
    · show (if (iz (-6 : Int)) = 0 then _ else _) = _
      rw [if_neg (by decide), b2_id]; rfl
  rw [if_neg q1, if_neg q2] at hf2 hg2
  have hI' := hI
  obtain ⟨now, img, st, ct, hist, ls, rw_, R, hg, hC, hM⟩ := hI
  have hv := hg.1.1
  have hk : okFs (frs now 0 now.1) := frs_okFs hv (fun q hq => hq) (Nat.le_refl _)
  have hs := okS_up0 hv.2.2.2.2.2 (z := z) (by omega) (by omega)
  refine both_ask hI' (r := iz (cntV (frs now 0 now.1) (up now.2.2.2 0 z))) ?_ (fun M' hs' => ?_)
  · obtain ⟨M1, a1, a2, a3, a4⟩ := c_trial hv hC.1
    obtain ⟨M2, b1, b2, b3, b4, b5⟩ := c_lw (v := now) (f := now.2.2.2) hv hk hs a2 a3
    refine ⟨M2, keepC.lw ((a4.mono (fun a ha => by omega)).tr b5), (hf2 M).trans ?_⟩
    show (if (iz (0 : Int)) = 0 then _ else _) = _
    rw [if_pos (show iz (0 : Int) = 0 from rfl), a1, b_s1, b2_id, b1]
  · have hm := (hM.same hg hs').1
    obtain ⟨M2, b1, b2, b3, -, -⟩ := m_lw (v := now) (f := now.2.2.2) hv hv.2.2.2.2.2 hs hm
    refine ⟨M2, b3, (hg2 M').trans ?_⟩
    show (if (iz (0 : Int)) = 0 then _ else _) = _
    rw [if_pos (show iz (0 : Int) = 0 from rfl), b2_id]; exact b1
def nar (c : Nat → Int) (n : Int) : Nat → Nat → Int
  | 0, _ => -9
  | d + 1, w => if 0 ≤ c w ∧ c w ≤ n then (w : Int) else nar c n d (w + 1)
theorem c_narL {v : PV} (hv : okV v) {F : List Fr} (hk : okFs F) {n : Int} (hn : 0 ≤ n ∧ n ≤ 20) : ∀ (d f w : Nat) (M : Mem) (z : Int), w + d = 61 → 10 ≤ w → d < f → cPar M 12 (setN v (up v.2.2.2 0 z)) → cFr M F →
    ∃ M', lq2 (f_X8_narrowest_L25 (iz n)) f (iz (w : Int)) M = some (iz (nar (fun w => cntV F (up v.2.2.2 0 (w : Int))) n d w), M') ∧ sameOn (fun a => a < 12 ∨ (23 ≤ a ∧ a < 126) ∨ a = 134 ∨ a = 135 ∨ 137 ≤ a) M M' := by
  intro d
  induction d with
  | zero =>
    intro f w M z e1 e2 e3 hc hF
    obtain ⟨f, rfl⟩ : ∃ g, f = g + 1 := ⟨f - 1, by omega⟩
    refine ⟨M, ?_, sameOn.rf⟩
    rw [lq2_s]
    generalize lq2 (f_X8_narrowest_L25 (iz n)) f = K
    unfold f_X8_narrowest_L25
    rw [if_pos (show (60 : Int32) < iz (w : Int) from (iz_cnt (n := 60) (m := w) (by omega) (by omega)).1.mpr (by omega))]; rfl
  | succ d ih =>
    intro f w M z e1 e2 e3 hc hF
    obtain ⟨f, rfl⟩ : ∃ g, f = g + 1 := ⟨f - 1, by omega⟩
    have hs := okS_up0 hv.2.2.2.2.2 (z := (w : Int)) (by omega) (by omega)
    obtain ⟨M1, b1, b2, b3, b4, b5⟩ := c_lw (v := v) (f := up v.2.2.2 0 z) (n := (w : Int)) hv hk (by rw [up_up]; exact hs) hc hF
    rw [up_up] at b1 b2
    obtain ⟨M', r1, r2⟩ := ih f (w + 1) M1 (w : Int) (by omega) (by omega) (by omega) b2 b3
    have hb := cntV_b hk (s := up v.2.2.2 0 (w : Int))
    have hstep : ∀ K, f_X8_narrowest_L25 (iz n) K (iz (w : Int)) M = (if iz (cntV F (up v.2.2.2 0 (w : Int))) = (-9 : Int32) then K (iz ((w + 1 : Nat) : Int)) M1 else (if iz n < iz (cntV F (up v.2.2.2 0 (w : Int))) then K (iz ((w + 1 : Nat) : Int)) M1 else some (iz (w : Int), M1))) := fun K => by
      unfold f_X8_narrowest_L25
      rw [if_neg (show ¬ (60 : Int32) < iz (w : Int) from fun e => by have := (iz_cnt (n := 60) (m := w) (by omega) (by omega)).1.mp e; omega), b1, b_s2, nmq_q, iz_s]
    rw [lq2_s, hstep]
    show ∃ M', _ = some (iz (if 0 ≤ cntV F (up v.2.2.2 0 (w : Int)) ∧ cntV F (up v.2.2.2 0 (w : Int)) ≤ n then (w : Int) else nar (fun w => cntV F (up v.2.2.2 0 (w : Int))) n d (w + 1)), M') ∧ _
    by_cases q : cntV F (up v.2.2.2 0 (w : Int)) = -9
    · rw [if_pos (show iz (cntV F (up v.2.2.2 0 (w : Int))) = (-9 : Int32) by rw [q]; decide), if_neg (by omega)]
      exact ⟨M', r1, b5.tr r2⟩
    · rw [if_neg (show ¬ iz (cntV F (up v.2.2.2 0 (w : Int))) = (-9 : Int32) from neq_iz (b := -9) (by omega) (by omega) (by omega) (by omega) q)]
      by_cases q2 : n < cntV F (up v.2.2.2 0 (w : Int))
      · rw [if_pos (lt_iz (by omega) (by omega) (by omega) (by omega) q2), if_neg (by omega)]
        exact ⟨M', r1, b5.tr r2⟩
      · rw [if_neg (nlt_iz (by omega) (by omega) (by omega) (by omega) q2), if_pos (by omega)]
        exact ⟨M1, rfl, b5⟩
theorem m_narL {v : PV} (hv : okV v) {n : Int} (hn : 0 ≤ n ∧ n ≤ 20) : ∀ (d f w : Nat) (M : Mem), w + d = 61 → 10 ≤ w → d < f → mPar (rdNow M) v →
    ∃ M', lq2 (f_X9_narrowest_L21 (iz n)) f (iz (w : Int)) M = some (iz (nar (fun w => cntV (frs v 0 v.1) (up v.2.2.2 0 (w : Int))) n d w), M') ∧ keepM M M' := by
  have hk : okFs (frs v 0 v.1) := frs_okFs hv (fun q hq => hq) (Nat.le_refl _)
  intro d
  induction d with
  | zero =>
    intro f w M e1 e2 e3 hm
    obtain ⟨f, rfl⟩ : ∃ g, f = g + 1 := ⟨f - 1, by omega⟩
    refine ⟨M, ?_, keepM.rf⟩
    rw [lq2_s]
    generalize lq2 (f_X9_narrowest_L21 (iz n)) f = K
    unfold f_X9_narrowest_L21
    rw [if_pos (show (60 : Int32) < iz (w : Int) from (iz_cnt (n := 60) (m := w) (by omega) (by omega)).1.mpr (by omega))]; rfl
  | succ d ih =>
    intro f w M e1 e2 e3 hm
    obtain ⟨f, rfl⟩ : ∃ g, f = g + 1 := ⟨f - 1, by omega⟩
    have hs := okS_up0 hv.2.2.2.2.2 (z := (w : Int)) (by omega) (by omega)
    obtain ⟨M1, b1, b2, b3, -, -⟩ := m_lw (v := v) (f := v.2.2.2) (n := (w : Int)) hv hv.2.2.2.2.2 hs hm
    have b1 : f_X9_linesWith (iz (w : Int)) M = some (iz (cntV (frs v 0 v.1) (up v.2.2.2 0 (w : Int))), M1) := b1
    obtain ⟨M', r1, r2⟩ := ih f (w + 1) M1 (by omega) (by omega) (by omega) b2
    have hb := cntV_b hk (s := up v.2.2.2 0 (w : Int))
    have ein := m_isIn (z := cntV (frs v 0 v.1) (up v.2.2.2 0 (w : Int))) (lo := 0) (hi := n) (by omega) (by omega) (by omega) (by omega) (by omega) (by omega)
    have ein : f_X9_isIn (iz (cntV (frs v 0 v.1) (up v.2.2.2 0 (w : Int)))) (0 : Int32) (iz n) = _ := ein
    have hstep : ∀ K, f_X9_narrowest_L21 (iz n) K (iz (w : Int)) M = (if (if 0 ≤ cntV (frs v 0 v.1) (up v.2.2.2 0 (w : Int)) ∧ cntV (frs v 0 v.1) (up v.2.2.2 0 (w : Int)) ≤ n then (1 : Int32) else 0) = 0 then K (iz ((w + 1 : Nat) : Int)) M1 else some (iz (w : Int), M1)) := fun K => by
      unfold f_X9_narrowest_L21
      rw [if_neg (show ¬ (60 : Int32) < iz (w : Int) from fun e => by have := (iz_cnt (n := 60) (m := w) (by omega) (by omega)).1.mp e; omega), b1, b_s2, ein, b_s1, nmq_q, iz_s]
    rw [lq2_s, hstep]
    show ∃ M', _ = some (iz (if 0 ≤ cntV (frs v 0 v.1) (up v.2.2.2 0 (w : Int)) ∧ cntV (frs v 0 v.1) (up v.2.2.2 0 (w : Int)) ≤ n then (w : Int) else nar (fun w => cntV (frs v 0 v.1) (up v.2.2.2 0 (w : Int))) n d (w + 1)), M') ∧ _
    by_cases q : 0 ≤ cntV (frs v 0 v.1) (up v.2.2.2 0 (w : Int)) ∧ cntV (frs v 0 v.1) (up v.2.2.2 0 (w : Int)) ≤ n
    · rw [if_pos q, if_neg (by decide), if_pos q]
      exact ⟨M1, rfl, b3⟩
    · rw [if_neg q, if_pos rfl, if_neg q]
      exact ⟨M', r1, b3.tr r2⟩
theorem op_narrowest {M : Mem} (hI : Inv M) (p : Int32) : both M (f_X8_narrowest p) (f_X9_narrowest p) := by
  obtain ⟨z, z1, z2, rfl⟩ := iz_ex p
  have ef : f_X8_outside (iz z) (1 : Int32) (20 : Int32) = _ := c_outside (z := z) (lo := 1) (hi := 20) z1 z2 (by omega) (by omega) (by omega) (by omega)
  have eg : f_X9_bound (iz z) (1 : Int32) (20 : Int32) = _ := m_bound (z := z) (lo := 1) (hi := 20) z1 z2 (by omega) (by omega) (by omega) (by omega)
  have hf2 : ∀ M, f_X8_narrowest (iz z) M = _ := fun M => b1_some ef
  have hg2 : ∀ M, f_X9_narrowest (iz z) M = _ := fun M => b1_some eg
  by_cases q1 : z < 1
  · rw [if_pos q1] at hf2 hg2
    refine both_no hI (v := 4) (by omega) ((hf2 M).trans ?_) (fun M' => (hg2 M').trans ?_)
    · show (if (iz (-4 : Int)) = 0 then _ else _) = _
      rw [if_neg (by decide), b2_id]; rfl
    · show (if (iz (-4 : Int)) = 0 then _ else _) = _
      rw [if_neg (by decide), b2_id]; rfl
  by_cases q2 : 20 < z
  · rw [if_neg q1, if_pos q2] at hf2 hg2
    refine both_no hI (v := 6) (by omega) ((hf2 M).trans ?_) (fun M' => (hg2 M').trans ?_)
    · show (if (iz (-6 : Int)) = 0 then _ else _) = _
      rw [if_neg (by decide), b2_id]; rfl
    · show (if (iz (-6 : Int)) = 0 then _ else _) = _
      rw [if_neg (by decide), b2_id]; rfl
  rw [if_neg q1, if_neg q2] at hf2 hg2
  have hI' := hI
  obtain ⟨now, img, st, ct, hist, ls, rw_, R, hg, hC, hM⟩ := hI
  have hv := hg.1.1
  have hk : okFs (frs now 0 now.1) := frs_okFs hv (fun q hq => hq) (Nat.le_refl _)
  refine both_ask hI' (r := iz (nar (fun w => cntV (frs now 0 now.1) (up now.2.2.2 0 (w : Int))) z 51 10)) ?_ (fun M' hs' => ?_)
  · obtain ⟨M1, a1, a2, a3, a4⟩ := c_trial hv hC.1
    have a2' : cPar M1 12 (setN now (up now.2.2.2 0 (now.2.2.2 0))) := by rw [up_same]; exact a2
    obtain ⟨M2, b1, b2⟩ := c_narL hv hk (n := z) (by omega) 51 FU 10 M1 _ (by omega) (by omega) (by rw [FU_eq]; omega) a2' a3
    refine ⟨M2, keepC.lw ((a4.mono (fun a ha => by omega)).tr b2), (hf2 M).trans ?_⟩
    show (if (iz (0 : Int)) = 0 then _ else _) = _
    rw [if_pos (show iz (0 : Int) = 0 from rfl), a1, b_s1]; exact b1
  · have hm := (hM.same hg hs').1
    obtain ⟨M2, b1, b2⟩ := m_narL hv (n := z) (by omega) 51 FU 10 M' (by omega) (by omega) (by rw [FU_eq]; omega) hm
    refine ⟨M2, b2, (hg2 M').trans ?_⟩
    show (if (iz (0 : Int)) = 0 then _ else _) = _
    rw [if_pos (show iz (0 : Int) = 0 from rfl)]; exact b1
/-! two -/
def lessT (t u : Option (UInt32 × Nat)) : Bool := match t with
  | none => false
  | some x => match u with
    | none => true
    | some y => decide (zv x.1 < zv y.1)
def twoV (t u : Option (UInt32 × Nat)) : Int := if lessT t u = true then 0 else if lessT u t = true then 1 else -9
theorem c_isLess {t u : Option (UInt32 × Nat)} (ht : ∀ x, t = some x → nn x.1) (hu : ∀ x, u = some x → nn x.1) : f_X8_isLess (oV t) (oV u) = some (if lessT t u = true then 1 else 0) := by
  have nt : ∀ {w : Option (UInt32 × Nat)}, (∀ x, w = some x → nn x.1) → fval (oV w) ≠ .nan ∧ (zv (oV w) < 0 ↔ w = none) := fun {w} hw => by
    cases w with
    | none => exact ⟨c_m1.1, fun _ => rfl, fun _ => by show zv (3212836864 : UInt32) < 0; rw [c_m1.2]; decide +kernel⟩
    | some x =>
      have h := hw x rfl
      refine ⟨nn_ne h, fun e => ?_, fun e => by cases e⟩
      have e : zv x.1 < 0 := e
      rw [zv_nn h] at e
      omega
  obtain ⟨t1, t2⟩ := nt ht
  obtain ⟨u1, u2⟩ := nt hu
  unfold f_X8_isLess
  rw [(fc_val t1 (nn_ne c_0.1)).2, (fc_val u1 (nn_ne c_0.1)).1, (fc_val t1 u1).1, c_0.2.2]
  cases t with
  | none => rw [if_pos (cmp3_lt.mpr (t2.mpr rfl))]; rfl
  | some x =>
    rw [if_neg (fun e => by have := t2.mp (cmp3_lt.mp e); cases this)]
    cases u with
    | none => rw [if_pos (cmp3_lt.mpr (u2.mpr rfl))]; rfl
    | some y =>
      rw [if_neg (fun e => by have := u2.mp (cmp3_lt.mp e); cases this)]
      show (if 0 ≤ cmp3 (zv x.1) (zv y.1) then some (0 : Int32) else some (1 : Int32)) = some (if decide (zv x.1 < zv y.1) = true then 1 else 0)
      by_cases q : zv x.1 < zv y.1
      · rw [if_neg (fun e => by have := cmp3_ge.mp e; omega), if_pos (decide_eq_true q)]
      · rw [if_pos (cmp3_ge.mpr (by omega)), if_neg (by rw [decide_eq_false q]; decide)]
theorem c_least {M : Mem} {F : List Fr} {s : Nat → Int} (hk : okFs F) (hF : cFr M F) (hS : cSol M F s) : f_X6_leastTotal M = some (oV (bst F s F.length)) := by
  have a133 : alen 133 = 193 := rfl
  unfold f_X6_leastTotal
  rw [hF.1, c_bestAt a133 hk.1, b_s1, hS.1]
theorem m_total {M : Mem} {F : List Fr} {s : Nat → Int} (hk : okFs F) (hF : mFr M F) (hS : mSol M F s) : ∃ x, f_X9_totalNow M = some x ∧ ((bst F s F.length).isSome = true → x = oV (bst F s F.length)) := by
  have hl := hk.1
  refine ⟨gf M 153 F.length, ?_, fun h => (hS.2 h).1⟩
  unfold f_X9_totalNow
  rw [hF.1, g_t (inB_n (by omega) (by omega)), clN (by omega)]
theorem cnt_neg {F : List Fr} (hk : okFs F) {s : Nat → Int} : iz (cntV F s) < 0 ↔ bst F s F.length = none := by
  have hb := cntV_b hk (s := s)
  rw [← hb.2.2]
  constructor
  · intro e
    have := (iz_lt (b := 0) (by omega) (by omega) (by omega) (by omega)).mp e
    omega
  · intro e; rw [e]; decide
theorem op_two {M : Mem} (hI : Inv M) (p p' : Int32) : both M (f_X8_two p p') (f_X9_two p p') := by
  obtain ⟨z, z1, z2, rfl⟩ := iz_ex p
  obtain ⟨y, y1, y2, rfl⟩ := iz_ex p'
  have kn4 : ∀ M', f_X9_no (-4 : Int32) M' = f_X9_no (iz (-((4 : Nat) : Int))) M' := fun _ => rfl
  have kc4 : ∀ M', f_X8_refuse (-4 : Int32) M' = f_X8_refuse (iz (-((4 : Nat) : Int))) M' := fun _ => rfl
  have kn6 : ∀ M', f_X9_no (-6 : Int32) M' = f_X9_no (iz (-((6 : Nat) : Int))) M' := fun _ => rfl
  have kc6 : ∀ M', f_X8_refuse (-6 : Int32) M' = f_X8_refuse (iz (-((6 : Nat) : Int))) M' := fun _ => rfl
  by_cases q1 : z < 10
  · have c1 : iz z < (10 : Int32) := lt_iz (b := 10) z1 z2 (by omega) (by omega) q1
    refine both_no hI (v := 4) (by omega) ?_ (fun M' => ?_)
    · simp (decide := true) only [f_X8_two, jq, c1, if_true, b2_id]; exact kc4 _
    · simp (decide := true) only [f_X9_two, nmq, c1, if_true, if_false, b2_id]; exact kn4 _
  have c1 : ¬ iz z < (10 : Int32) := nlt_iz (b := 10) z1 z2 (by omega) (by omega) q1
  by_cases q2 : y < 10
  · have c2 : ¬ (10 : Int32) ≤ iz y := nle_iz (a := 10) (by omega) (by omega) y1 y2 (by omega)
    refine both_no hI (v := 4) (by omega) ?_ (fun M' => ?_)
    · simp (decide := true) only [f_X8_two, jq, c1, c2, if_true, if_false, b2_id]; exact kc4 _
    · simp (decide := true) only [f_X9_two, nmq, c1, c2, if_true, if_false, b2_id]; exact kn4 _
  have c2 : (10 : Int32) ≤ iz y := le_iz (a := 10) (by omega) (by omega) y1 y2 (by omega)
  by_cases q3 : 60 < z
  · have c3 : (60 : Int32) < iz z := lt_iz (a := 60) (by omega) (by omega) z1 z2 q3
    refine both_no hI (v := 6) (by omega) ?_ (fun M' => ?_)
    · simp (decide := true) only [f_X8_two, jq, c1, c2, c3, if_true, if_false, b2_id]; exact kc6 _
    · simp (decide := true) only [f_X9_two, nmq, c1, c2, c3, if_true, if_false, b2_id]; exact kn6 _
  have c3 : ¬ (60 : Int32) < iz z := nlt_iz (a := 60) (by omega) (by omega) z1 z2 q3
  by_cases q4 : 60 < y
  · have c4 : ¬ iz y ≤ (60 : Int32) := nle_iz (b := 60) y1 y2 (by omega) (by omega) (by omega)
    refine both_no hI (v := 6) (by omega) ?_ (fun M' => ?_)
    · simp (decide := true) only [f_X8_two, jq, c1, c2, c3, c4, if_true, if_false, b2_id]; exact kc6 _
    · simp (decide := true) only [f_X9_two, nmq, c1, c2, c3, c4, if_true, if_false, b2_id]; exact kn6 _
  have c4 : iz y ≤ (60 : Int32) := le_iz (b := 60) y1 y2 (by omega) (by omega) (by omega)
  have hI' := hI
  obtain ⟨now, img, st, ct, hist, ls, rw_, R, hg, hC, hM⟩ := hI
  have hv := hg.1.1
  have hk : okFs (frs now 0 now.1) := frs_okFs hv (fun q hq => hq) (Nat.le_refl _)
  have hs1 := okS_up0 hv.2.2.2.2.2 (z := z) (by omega) (by omega)
  have hs2 := okS_up0 hv.2.2.2.2.2 (z := y) (by omega) (by omega)
  have nnb : ∀ {f : Nat → Int}, okS f → ∀ x, bst (frs now 0 now.1) f (frs now 0 now.1).length = some x → nn x.1 := fun hf x hx => (bst_ok hk hf _ _ (Nat.le_refl _) (Nat.le_refl _) x hx).1
  refine both_ask hI' (r := iz (twoV (bst (frs now 0 now.1) (up now.2.2.2 0 z) (frs now 0 now.1).length) (bst (frs now 0 now.1) (up now.2.2.2 0 y) (frs now 0 now.1).length))) ?_ (fun M' hs' => ?_)
  · obtain ⟨M1, a1, a2, a3, a4⟩ := c_trial hv hC.1
    obtain ⟨M2, b1, b2, b3, b4, b5⟩ := c_lw (v := now) (f := now.2.2.2) hv hk hs1 a2 a3
    obtain ⟨M3, d1, d2, d3, d4, d5⟩ := c_lw (v := now) (f := up now.2.2.2 0 z) (n := y) hv hk (by rw [up_up]; exact hs2) b2 b3
    rw [up_up] at d1 d4
    refine ⟨M3, keepC.lw (((a4.mono (fun a ha => by omega)).tr b5).tr d5), ?_⟩
    have l1 := c_least hk b3 b4
    have l2 := c_least hk d3 d4
    have k1 := c_isLess (nnb hs1) (nnb hs2)
    have k2 := c_isLess (nnb hs2) (nnb hs1)
    unfold f_X8_two
    rw [jq_q, if_neg c1, if_pos c2, jq_q, if_neg c3, if_pos c4, a1, b_s1, b1, b_s2, l1, b_s1, d1, b_s2, l2, b_s1, k1, b_s1, k2, b_s1]
    unfold twoV
    by_cases r1 : lessT (bst (frs now 0 now.1) (up now.2.2.2 0 z) (frs now 0 now.1).length) (bst (frs now 0 now.1) (up now.2.2.2 0 y) (frs now 0 now.1).length) = true
    · rw [if_pos r1, if_neg (by decide), if_pos r1]; rfl
    · rw [if_neg r1, if_pos rfl, if_neg r1]
      by_cases r2 : lessT (bst (frs now 0 now.1) (up now.2.2.2 0 y) (frs now 0 now.1).length) (bst (frs now 0 now.1) (up now.2.2.2 0 z) (frs now 0 now.1).length) = true
      · rw [if_pos r2, if_neg (by decide), if_pos r2]; rfl
      · rw [if_neg r2, if_pos rfl, if_neg r2]; rfl
  · have hm := (hM.same hg hs').1
    obtain ⟨M2, b1, b2, b3, b4, b5⟩ := m_lw (v := now) (f := now.2.2.2) hv hv.2.2.2.2.2 hs1 hm
    obtain ⟨M3, d1, d2, d3, d4, d5⟩ := m_lw (v := now) (f := now.2.2.2) hv hv.2.2.2.2.2 hs2 b2
    have b1 : f_X9_linesWith (iz z) M' = some (iz (cntV (frs now 0 now.1) (up now.2.2.2 0 z)), M2) := b1
    have d1 : f_X9_linesWith (iz y) M2 = some (iz (cntV (frs now 0 now.1) (up now.2.2.2 0 y)), M3) := d1
    obtain ⟨xa, t1, t2⟩ := m_total hk b5 b4
    obtain ⟨xb, u1, u2⟩ := m_total hk d5 d4
    refine ⟨M3, b3.tr d3, ?_⟩
    have n1 := cnt_neg hk (s := up now.2.2.2 0 z)
    have n2 := cnt_neg hk (s := up now.2.2.2 0 y)
    have x1 : (if iz z < (10 : Int32) then ((-4 : Int32)) else (if (10 : Int32) ≤ iz y then (if (60 : Int32) < iz z then ((-6 : Int32)) else (if iz y ≤ (60 : Int32) then ((0 : Int32)) else ((-6 : Int32)))) else ((-4 : Int32)))) = 0 := by
      rw [if_neg c1, if_pos c2, if_neg c3, if_pos c4]
    have nz := nnb hs1
    have ny := nnb hs2
    unfold f_X9_two
    rw [nmq_q, x1, if_pos rfl, b1, b_s2, nmq_q, t1, b_s1, d1, b_s2, nmq_q, u1, b_s1, jq_q]
    generalize bst (frs now 0 now.1) (up now.2.2.2 0 z) (frs now 0 now.1).length = T at n1 t2 nz ⊢
    generalize bst (frs now 0 now.1) (up now.2.2.2 0 y) (frs now 0 now.1).length = U at n2 u2 ny ⊢
    unfold twoV
    have g1 : ∀ {c : Prop} [Decidable c], c → (if c then (0 : Int32) else 1) = 0 := fun h => if_pos h
    have g0 : ∀ {c : Prop} [Decidable c], ¬ c → (if c then (0 : Int32) else 1) = 1 := fun h => if_neg h
    cases T with
    | none =>
      rw [g1 (n1.mpr rfl)]
      cases U with
      | none => rw [g1 (n2.mpr rfl)]; rfl
      | some b =>
        rw [g0 (fun e => by have := n2.mp e; cases this)]; rfl
    | some a =>
      have ea := t2 rfl
      have na := nz a rfl
      rw [g0 (fun e => by have := n1.mp e; cases this)]
      cases U with
      | none => rw [g1 (n2.mpr rfl)]; rfl
      | some b =>
        have eb := u2 rfl
        have nb := ny b rfl
        have ea : xa = a.1 := ea
        have eb : xb = b.1 := eb
        rw [g0 (fun e => by have := n2.mp e; cases this), ea, eb, (fc_val (nn_ne na) (nn_ne nb)).1, (fc_val (nn_ne nb) (nn_ne na)).1]
        show (if 0 ≤ cmp3 (zv a.1) (zv b.1) then (if 0 ≤ cmp3 (zv b.1) (zv a.1) then some ((-9 : Int32), M3) else some ((1 : Int32), M3)) else some ((0 : Int32), M3)) = some (iz (if decide (zv a.1 < zv b.1) = true then 0 else if decide (zv b.1 < zv a.1) = true then 1 else -9), M3)
        by_cases r1 : zv a.1 < zv b.1
        · rw [if_neg (fun e => by have := cmp3_ge.mp e; omega), if_pos (decide_eq_true r1)]; rfl
        · rw [if_pos (cmp3_ge.mpr (by omega)), if_neg (show ¬ decide (zv a.1 < zv b.1) = true by rw [decide_eq_false r1]; decide)]
          by_cases r2 : zv b.1 < zv a.1
          · rw [if_neg (fun e => by have := cmp3_ge.mp e; omega), if_pos (decide_eq_true r2)]; rfl
          · rw [if_pos (cmp3_ge.mpr (by omega)), if_neg (show ¬ decide (zv b.1 < zv a.1) = true by rw [decide_eq_false r2]; decide)]; rfl
