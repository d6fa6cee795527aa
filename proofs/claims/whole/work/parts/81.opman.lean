/-! manners, lots -/
theorem okS_up' {f : Nat → Int} (h : okS f) {i : Nat} {z : Int} (hz : (i = 4 ∧ 0 ≤ z ∧ z ≤ 40) ∨ (i = 7 ∧ 0 ≤ z ∧ z ≤ 2) ∨ (i = 8 ∧ 0 ≤ z ∧ z ≤ 5) ∨ (i = 9 ∧ 0 ≤ z ∧ z ≤ 9)) : okS (up f i z) := by
  obtain ⟨h0, h1, h2, h3, h4, h5, h6, h7, h8, h9⟩ := h
  rcases hz with ⟨rfl, a, b⟩ | ⟨rfl, a, b⟩ | ⟨rfl, a, b⟩ | ⟨rfl, a, b⟩
  · exact ⟨h0, h1, h2, h3, ⟨a, b⟩, h5, h6, h7, h8, h9⟩
  · exact ⟨h0, h1, h2, h3, h4, h5, h6, ⟨a, b⟩, h8, h9⟩
  · exact ⟨h0, h1, h2, h3, h4, h5, h6, h7, ⟨a, b⟩, h9⟩
  · exact ⟨h0, h1, h2, h3, h4, h5, h6, h7, h8, ⟨a, b⟩⟩
/-- the reference's cells but for its own fields J -/
def kX (J : Nat → Prop) (M M' : Mem) : Prop := sameOn (fun k => k < 139 ∨ (140 ≤ k ∧ k < 149) ∨ k = 156 ∨ k = 168) M M' ∧ (∀ j, ((9 ≤ j ∧ j < 21) ∨ j = 36 ∨ j = 42 ∨ j = 45 ∨ j = 46 ∨ j = 52) → ¬ J j → gi M' 139 j = gi M 139 j) ∧ ∀ x, x < 292 ∨ 885 ≤ x → gi M' 163 x = gi M 163 x
theorem kX.rf {J : Nat → Prop} {M : Mem} : kX J M M := ⟨sameOn.rf, fun _ _ _ => rfl, fun _ _ => rfl⟩
theorem kX.tr {J : Nat → Prop} {M M' M'' : Mem} (h : kX J M M') (h' : kX J M' M'') : kX J M M'' := ⟨h.1.tr h'.1, fun j h1 h2 => (h'.2.1 j h1 h2).trans (h.2.1 j h1 h2), fun x hx => (h'.2.2 x hx).trans (h.2.2 x hx)⟩
theorem kX.keep {J : Nat → Prop} {M M' : Mem} (h : kX J M M') (hJ : ∀ j, J j → gi M' 139 j = gi M 139 j) : keepM M M' := ⟨h.1.mono (fun a ha => by omega), fun j hj => by
    by_cases q : gi M' 139 j = gi M 139 j
    · exact q
    · exact h.2.1 j (by omega) (fun t => q (hJ j t)), h.2.2⟩
theorem keepM.toX {J : Nat → Prop} {M M' : Mem} (h : keepM M M') : kX J M M' := ⟨h.1.mono (fun a ha => by omega), fun j hj _ => h.2.1 j (by omega), h.2.2⟩
theorem kL.toX {J : Nat → Prop} {M M' : Mem} (h : kL M M') : kX J M M' := ⟨h.1.mono (fun a ha => by omega), fun j hj _ => h.2 j (by omega) (by omega), fun x _ => by rw [(h.1 163 (by omega)).1]⟩
theorem kX.si {J : Nat → Prop} {M : Mem} {j : Nat} {x : Int32} (h : J j ∨ j = 53) : kX J M (si M 139 j x) := ⟨sameOn.si (by omega), fun i hi hJ => by
    rw [gi_si, if_neg]
    rintro ⟨_, q⟩
    rcases h with t | t
    · rw [q] at hJ; exact hJ t
    · omega, fun x _ => by rw [gi_si, if_neg (by omega)]⟩
def manF (c : Nat → Int) : Nat → Int × Int
  | 0 => (-9, -9)
  | k + 1 => if c k = -9 then manF c k else if (manF c k).1 = -9 then (c k, (k : Int)) else if (manF c k).1 ≤ c k then manF c k else (c k, (k : Int))
theorem manF_b {c : Nat → Int} (hc : ∀ k, (c k = -9 ∨ 0 ≤ c k) ∧ c k ≤ 160) : ∀ k, k ≤ 3 → (manF c k = (-9, -9) ∨ (0 ≤ (manF c k).1 ∧ 0 ≤ (manF c k).2)) ∧ (manF c k).1 ≤ 160 ∧ (manF c k).2 ≤ 3
  | 0, _ => ⟨Or.inl rfl, by show (-9 : Int) ≤ 160; omega, by show (-9 : Int) ≤ 3; omega⟩
  | k + 1, hk => by
    have ih := manF_b hc k (by omega)
    have hck := hc k
    unfold manF
    by_cases q : c k = -9
    · rw [if_pos q]; exact ih
    · rw [if_neg q]
      have hnew : ((c k, (k : Int)) = (-9, -9) ∨ (0 ≤ (c k, (k : Int)).1 ∧ 0 ≤ (c k, (k : Int)).2)) ∧ (c k, (k : Int)).1 ≤ 160 ∧ (c k, (k : Int)).2 ≤ 3 := ⟨Or.inr ⟨by show 0 ≤ c k; omega, by show 0 ≤ (k : Int); omega⟩, hck.2, by show (k : Int) ≤ 3; omega⟩
      by_cases q2 : (manF c k).1 = -9
      · rw [if_pos q2]; exact hnew
      · rw [if_neg q2]
        by_cases q3 : (manF c k).1 ≤ c k
        · rw [if_pos q3]; exact ih
        · rw [if_neg q3]; exact hnew
theorem c_manL {v : PV} (hv : okV v) {F : List Fr} (hk : okFs F) : ∀ (d f k : Nat) (M : Mem) (z : Int), k + d = 3 → d < f → cPar M 12 (setN v (up v.2.2.2 7 z)) → cFr M F →
    ∃ M', lq4 f_X8_manners_L12 f (iz (manF (fun k => cntV F (up v.2.2.2 7 (k : Int))) k).1) (iz (manF (fun k => cntV F (up v.2.2.2 7 (k : Int))) k).2) (iz (k : Int)) M = some (iz (manF (fun k => cntV F (up v.2.2.2 7 (k : Int))) 3).2, M') ∧ keepC M M' := by
  intro d
  induction d with
  | zero =>
    intro f k M z e1 e2 hc hF
    obtain ⟨f, rfl⟩ : ∃ g, f = g + 1 := ⟨f - 1, by omega⟩
    refine ⟨M, ?_, keepC.rf⟩
    rw [lq4_s]
    generalize lq4 f_X8_manners_L12 f = K
    unfold f_X8_manners_L12
    rw [if_pos (show (3 : Int32) ≤ iz (k : Int) from le_cnt (n := 3) (by omega) (by omega)), show k = 3 by omega]
  | succ d ih =>
    intro f k M z e1 e2 hc hF
    obtain ⟨f, rfl⟩ : ∃ g, f = g + 1 := ⟨f - 1, by omega⟩
    have hs := okS_up' hv.2.2.2.2.2 (i := 7) (z := (k : Int)) (by omega)
    have hc1 := hc.num (i := 7) (z := (k : Int))
    have hc1 : cPar (si M 12 10 (iz (k : Int))) 12 (setN v (up (up v.2.2.2 7 z) 7 (k : Int))) := hc1
    rw [up_up] at hc1
    have hF1 : cFr (si M 12 10 (iz (k : Int))) F := hF.same (sameOn.si (by omega))
    obtain ⟨M1, r1, r2, r3, r4⟩ := c_solve (Or.inr rfl) (hv.setN hs) hc1 hk hF1
    have r1 : f_X6_solve 12 (si M 12 10 (iz (k : Int))) = some (iz (cntV F (up v.2.2.2 7 (k : Int))), M1) := r1
    have k1 : keepC M M1 := (keepC.of (sameOn.si (by omega))).tr (keepC.of (r4.mono (fun a ha => by omega)))
    obtain ⟨M', q1, q2⟩ := ih f (k + 1) M1 (k : Int) (by omega) (by omega) (hc1.same (r4.mono (fun a ha => by omega))) (hF1.same (r4.mono (fun a ha => by omega)))
    refine ⟨M', ?_, k1.tr q2⟩
    have hb := manF_b (c := fun k => cntV F (up v.2.2.2 7 (k : Int))) (fun k => ⟨(cntV_b hk).1, (cntV_b hk).2.1⟩) k (by omega)
    have hbk := cntV_b hk (s := up v.2.2.2 7 (k : Int))
    rw [lq4_s]
    generalize lq4 f_X8_manners_L12 f = K at q1 ⊢
    unfold f_X8_manners_L12
    have eS : manF (fun k => cntV F (up v.2.2.2 7 (k : Int))) (k + 1) = (if cntV F (up v.2.2.2 7 (k : Int)) = -9 then manF (fun k => cntV F (up v.2.2.2 7 (k : Int))) k else if (manF (fun k => cntV F (up v.2.2.2 7 (k : Int))) k).1 = -9 then (cntV F (up v.2.2.2 7 (k : Int)), (k : Int)) else if (manF (fun k => cntV F (up v.2.2.2 7 (k : Int))) k).1 ≤ cntV F (up v.2.2.2 7 (k : Int)) then manF (fun k => cntV F (up v.2.2.2 7 (k : Int))) k else (cntV F (up v.2.2.2 7 (k : Int)), (k : Int))) := rfl
    rw [eS] at q1
    generalize manF (fun k => cntV F (up v.2.2.2 7 (k : Int))) k = mk at q1 hb ⊢
    rw [if_neg (show ¬ (3 : Int32) ≤ iz (k : Int) from nle_cnt (n := 3) (by omega) (by omega)), nmq_q, r1, b_s2, nmq_q, nmq_q, iz_s]
    by_cases c1 : cntV F (up v.2.2.2 7 (k : Int)) = -9
    · rw [if_pos c1] at q1
      rw [if_pos (show iz (cntV F (up v.2.2.2 7 (k : Int))) = (-9 : Int32) by rw [c1]; decide)]; exact q1
    · rw [if_neg c1] at q1
      rw [if_neg (show ¬ iz (cntV F (up v.2.2.2 7 (k : Int))) = (-9 : Int32) from neq_iz (b := -9) (by omega) (by omega) (by omega) (by omega) c1)]
      by_cases c2 : mk.1 = -9
      · rw [if_pos c2] at q1
        rw [if_pos (show iz mk.1 = (-9 : Int32) by rw [c2]; decide)]; exact q1
      · rw [if_neg c2] at q1
        have hb1 : 0 ≤ mk.1 := by
          rcases hb.1 with t | t
          · rw [t] at c2; exact absurd rfl c2
          · exact t.1
        rw [if_neg (show ¬ iz mk.1 = (-9 : Int32) from neq_iz (b := -9) (by omega) (by omega) (by omega) (by omega) c2)]
        by_cases c3 : mk.1 ≤ cntV F (up v.2.2.2 7 (k : Int))
        · rw [if_pos c3] at q1
          rw [if_pos (le_iz (by omega) (by omega) (by omega) (by omega) c3)]; exact q1
        · rw [if_neg c3] at q1
          rw [if_neg (nle_iz (by omega) (by omega) (by omega) (by omega) c3)]; exact q1
theorem m_manL {v : PV} (hv : okV v) : ∀ (d f k : Nat) (M : Mem) (z : Int), k + d = 3 → d < f → okS (up v.2.2.2 7 z) → mPar (rdNow M) (setN v (up v.2.2.2 7 z)) →
    ∃ M', lq4 f_X9_manners_L14 f (iz (manF (fun k => cntV (frs v 0 v.1) (up v.2.2.2 7 (k : Int))) k).2) (iz (manF (fun k => cntV (frs v 0 v.1) (up v.2.2.2 7 (k : Int))) k).1) (iz (k : Int)) M = some (iz (manF (fun k => cntV (frs v 0 v.1) (up v.2.2.2 7 (k : Int))) 3).2, M') ∧ kX (fun j => j = 18) M M' := by
  have hk : okFs (frs v 0 v.1) := frs_okFs hv (fun q hq => hq) (Nat.le_refl _)
  intro d
  induction d with
  | zero =>
    intro f k M z e1 e2 hz hm
    obtain ⟨f, rfl⟩ : ∃ g, f = g + 1 := ⟨f - 1, by omega⟩
    refine ⟨M, ?_, kX.rf⟩
    rw [lq4_s]
    generalize lq4 f_X9_manners_L14 f = K
    unfold f_X9_manners_L14
    rw [if_pos (show (3 : Int32) ≤ iz (k : Int) from le_cnt (n := 3) (by omega) (by omega)), show k = 3 by omega]
  | succ d ih =>
    intro f k M z e1 e2 hz hm
    obtain ⟨f, rfl⟩ : ∃ g, f = g + 1 := ⟨f - 1, by omega⟩
    have hs := okS_up' hv.2.2.2.2.2 (i := 7) (z := (k : Int)) (by omega)
    have hm1 := hm.num (hv.setN hz) (i := 7) (z := (k : Int)) (by omega)
    have hm1 : mPar (rdNow (si M 139 18 (iz (k : Int)))) (setN v (up (up v.2.2.2 7 z) 7 (k : Int))) := hm1
    rw [up_up] at hm1
    obtain ⟨M1, r1, r2, r3, r4⟩ := m_find (hv.setN hs) hm1
    have r1 : f_X9_findLines (si M 139 18 (iz (k : Int))) = some (iz (cntV (frs (setN v (up v.2.2.2 7 (k : Int))) 0 v.1) (up v.2.2.2 7 (k : Int))), M1) := r1
    rw [frs_congr (v := v) (v' := setN v (up v.2.2.2 7 (k : Int))) rfl rfl rfl rfl v.1 0] at r1
    have k1 : kX (fun j => j = 18) M M1 := (kX.si (J := fun j => j = 18) (Or.inl rfl)).tr r4.toX
    obtain ⟨M', q1, q2⟩ := ih f (k + 1) M1 (k : Int) (by omega) (by omega) hs (r4.par (hv.setN hs) hm1)
    refine ⟨M', ?_, k1.tr q2⟩
    have hb := manF_b (c := fun k => cntV (frs v 0 v.1) (up v.2.2.2 7 (k : Int))) (fun k => ⟨(cntV_b hk).1, (cntV_b hk).2.1⟩) k (by omega)
    have hbk := cntV_b hk (s := up v.2.2.2 7 (k : Int))
    rw [lq4_s]
    generalize lq4 f_X9_manners_L14 f = K at q1 ⊢
    unfold f_X9_manners_L14
    have eS : manF (fun k => cntV (frs v 0 v.1) (up v.2.2.2 7 (k : Int))) (k + 1) = (if cntV (frs v 0 v.1) (up v.2.2.2 7 (k : Int)) = -9 then manF (fun k => cntV (frs v 0 v.1) (up v.2.2.2 7 (k : Int))) k else if (manF (fun k => cntV (frs v 0 v.1) (up v.2.2.2 7 (k : Int))) k).1 = -9 then (cntV (frs v 0 v.1) (up v.2.2.2 7 (k : Int)), (k : Int)) else if (manF (fun k => cntV (frs v 0 v.1) (up v.2.2.2 7 (k : Int))) k).1 ≤ cntV (frs v 0 v.1) (up v.2.2.2 7 (k : Int)) then manF (fun k => cntV (frs v 0 v.1) (up v.2.2.2 7 (k : Int))) k else (cntV (frs v 0 v.1) (up v.2.2.2 7 (k : Int)), (k : Int))) := rfl
    rw [eS] at q1
    generalize manF (fun k => cntV (frs v 0 v.1) (up v.2.2.2 7 (k : Int))) k = mk at q1 hb ⊢
    rw [if_neg (show ¬ (3 : Int32) ≤ iz (k : Int) from nle_cnt (n := 3) (by omega) (by omega)), nmq_q, r1, b_s2, nmq_q, nmq_q, iz_s]
    by_cases c1 : cntV (frs v 0 v.1) (up v.2.2.2 7 (k : Int)) = -9
    · rw [if_pos c1] at q1
      rw [if_pos (show iz (cntV (frs v 0 v.1) (up v.2.2.2 7 (k : Int))) < 0 by rw [c1]; decide)]; exact q1
    · rw [if_neg c1] at q1
      rw [if_neg (show ¬ iz (cntV (frs v 0 v.1) (up v.2.2.2 7 (k : Int))) < 0 from nlt_iz (b := 0) (by omega) (by omega) (by omega) (by omega) (by omega))]
      by_cases c2 : mk.1 = -9
      · have hmk : mk = (-9, -9) := by
          rcases hb.1 with t | t
          · exact t
          · omega
        rw [if_pos c2] at q1
        rw [if_pos (show iz mk.2 < 0 by rw [hmk]; decide)]; exact q1
      · rw [if_neg c2] at q1
        have hb1 : 0 ≤ mk.1 ∧ 0 ≤ mk.2 := by
          rcases hb.1 with t | t
          · rw [t] at c2; exact absurd rfl c2
          · exact t
        rw [if_neg (show ¬ iz mk.2 < 0 from nlt_iz (b := 0) (by omega) (by omega) (by omega) (by omega) (by omega))]
        by_cases c3 : mk.1 ≤ cntV (frs v 0 v.1) (up v.2.2.2 7 (k : Int))
        · rw [if_pos c3] at q1
          rw [if_neg (nlt_iz (by omega) (by omega) (by omega) (by omega) (by omega))]; exact q1
        · rw [if_neg c3] at q1
          rw [if_pos (lt_iz (by omega) (by omega) (by omega) (by omega) (by omega))]; exact q1
theorem op_manners {M : Mem} (hI : Inv M) : both M f_X8_manners f_X9_manners := by
  have hI' := hI
  obtain ⟨now, img, st, ct, hist, ls, rw_, R, hg, hC, hM⟩ := hI
  have hv := hg.1.1
  have hk : okFs (frs now 0 now.1) := frs_okFs hv (fun q hq => hq) (Nat.le_refl _)
  refine both_ask hI' (r := iz (manF (fun k => cntV (frs now 0 now.1) (up now.2.2.2 7 (k : Int))) 3).2) ?_ (fun M' hs' => ?_)
  · obtain ⟨M1, a1, a2, a3, a4⟩ := c_trial hv hC.1
    have a2' : cPar M1 12 (setN now (up now.2.2.2 7 (now.2.2.2 7))) := by rw [up_same]; exact a2
    obtain ⟨M2, b1, b2⟩ := c_manL hv hk 3 FU 0 M1 _ (by omega) (by rw [FU_eq]; omega) a2' a3
    refine ⟨M2, (keepC.of (a4.mono (fun a ha => by omega))).tr b2, ?_⟩
    unfold f_X8_manners
    have b1' : lq4 f_X8_manners_L12 FU (-9 : Int32) (-9 : Int32) (0 : Int32) M1 = _ := b1
    rw [a1, b_s1, b2_id]; exact b1'
  · have hm := (hM.same hg hs').1
    have hm' : mPar (rdNow M') (setN now (up now.2.2.2 7 (now.2.2.2 7))) := by rw [up_same]; exact hm
    obtain ⟨M2, b1, b2⟩ := m_manL hv 3 FU 0 M' _ (by omega) (by rw [FU_eq]; omega) (by rw [up_same]; exact hv.2.2.2.2.2) hm'
    have b1' : lq4 f_X9_manners_L14 FU (-9 : Int32) (-9 : Int32) (0 : Int32) M' = _ := b1
    refine ⟨si M2 139 18 (gi M' 139 18), (b2.tr (kX.si (Or.inl rfl))).keep (fun j hj => by rw [hj, gi_si, if_pos ⟨rfl, rfl⟩]), ?_⟩
    unfold f_X9_manners
    rw [nmq_q, b1', b_s2, nmq_q]
/-! draws -/
def nxS (s : Int32) : Int32 := s * (1664525 : Int32) + (1013904223 : Int32)
def drI (s : Int32) : Int32 := irm ((s &&& (2147483647 : Int32)) / (256 : Int32)) (41 : Int32)
theorem drI_ex (s : Int32) : ∃ t : Nat, t < 41 ∧ drI s = iz (t : Int) := by
  obtain ⟨j, hj, e⟩ := pk_andE s (m := (2147483647 : Int32)) 31 (by decide)
  have e1 : s &&& (2147483647 : Int32) = iz (j : Int) := by rw [e, iz_i]; rfl
  have e2 : iz (j : Int) / (256 : Int32) = iz ((j : Int) / 256) := iz_div (b := 256) (by omega) (by omega) (by omega) (by omega)
  have e3 : irm (iz ((j : Int) / 256)) (41 : Int32) = iz ((j : Int) / 256 % 41) := iz_irm (b := 41) (by omega) (by omega) (by omega) (by omega)
  refine ⟨j / 256 % 41, by omega, ?_⟩
  unfold drI
  rw [e1, e2, e3]; rfl
def drN (s : Int32) : Int := (drI s).toInt
theorem drN_b (s : Int32) : iz (drN s) = drI s ∧ 0 ≤ drN s ∧ drN s ≤ 40 := by
  obtain ⟨t, ht, e⟩ := drI_ex s
  unfold drN
  rw [e, iz_toInt (by omega) (by omega)]
  exact ⟨rfl, by omega, by omega⟩
def lotF (c : Int → Int → Int) (z : Int32) : Nat → Int32 × Int × Int
  | 0 => (z, 0, 0)
  | k + 1 => (nxS (nxS (lotF c z k).1), if c (10 + drN (nxS (lotF c z k).1)) (drN (nxS (nxS (lotF c z k).1))) = -9 then ((lotF c z k).2.1, (lotF c z k).2.2 + 1) else ((lotF c z k).2.1 + c (10 + drN (nxS (lotF c z k).1)) (drN (nxS (nxS (lotF c z k).1))), (lotF c z k).2.2))
theorem keepC.seed {M : Mem} {x : Int32} : keepC M (si M 0 10 x) := ⟨sameOn.si (by omega), by rw [gi_si, if_neg (by omega)], by rw [gi_si, if_neg (by omega)], by rw [gi_si, if_neg (by omega)]⟩
def upG (f : Nat → Int) (l t : Int) : Nat → Int := up (up f 4 t) 0 l
theorem upG_c (f : Nat → Int) (l t l' t' : Int) : up (up (upG f l' t') 4 t) 0 l = upG f l t := by
  unfold upG
  rw [up_comm (up f 4 t') (i := 0) (j := 4) (by omega), up_up, up_up]
theorem upG_m (f : Nat → Int) (l t l' t' : Int) : up (up (upG f l' t') 0 l) 4 t = upG f l t := by
  rw [up_comm (upG f l' t') (i := 0) (j := 4) (by omega), upG_c]
theorem upG_ok {f : Nat → Int} (h : okS f) {l t : Int} (h1 : 10 ≤ l) (h2 : l ≤ 80) (h3 : 0 ≤ t) (h4 : t ≤ 40) : okS (upG f l t) := okS_up0 (okS_up' h (by omega)) h1 h2
theorem c_draw {M : Mem} {s : Int32} (h : gi M 0 10 = s) : f_X8_drawBelow41 M = some (iz (drN (nxS s)), si M 0 10 (nxS s)) := by
  unfold f_X8_drawBelow41
  rw [nmq_q, h]
  show some (irm (((gi (si M 0 10 (nxS s)) 0 10) &&& (2147483647 : Int32)) / (256 : Int32)) (41 : Int32), si M 0 10 (nxS s)) = _
  rw [gi_si, if_pos ⟨rfl, rfl⟩, (drN_b (nxS s)).1]; rfl
theorem m_draw {M : Mem} {s : Int32} (h : gi M 139 53 = s) : f_X9_draw (41 : Int32) M = some (iz (drN (nxS s)), si M 139 53 (nxS s)) := by
  unfold f_X9_draw
  rw [nmq_q, h, g_t (by decide)]
  show some (irm (((gi (si M 139 53 (nxS s)) 139 53) &&& (2147483647 : Int32)) / (256 : Int32)) (41 : Int32), si M 139 53 (nxS s)) = _
  rw [gi_si, if_pos ⟨rfl, rfl⟩, (drN_b (nxS s)).1]; rfl
theorem c_lotL {v : PV} (hv : okV v) {F : List Fr} (hk : okFs F) {z : Int32} {n : Nat} (hn : n ≤ 20) : ∀ (d f k : Nat) (M : Mem) (l t : Int), k + d = n → d < f → okS (upG v.2.2.2 l t) → cPar M 12 (setN v (upG v.2.2.2 l t)) → cFr M F → gi M 0 10 = (lotF (fun l t => cntV F (upG v.2.2.2 l t)) z k).1 →
    ∃ M', lq4 (f_X8_lots_L54 (iz (n : Int))) f (iz (lotF (fun l t => cntV F (upG v.2.2.2 l t)) z k).2.1) (iz (lotF (fun l t => cntV F (upG v.2.2.2 l t)) z k).2.2) (iz (k : Int)) M = some (iz (lotF (fun l t => cntV F (upG v.2.2.2 l t)) z n).2.1, iz (lotF (fun l t => cntV F (upG v.2.2.2 l t)) z n).2.2, M') ∧ keepC M M' := by
  intro d
  induction d with
  | zero =>
    intro f k M l t e1 e2 hlt hc hF hsd
    obtain ⟨f, rfl⟩ : ∃ g, f = g + 1 := ⟨f - 1, by omega⟩
    refine ⟨M, ?_, keepC.rf⟩
    rw [lq4_s]
    generalize lq4 (f_X8_lots_L54 (iz (n : Int))) f = K
    unfold f_X8_lots_L54
    rw [if_pos (le_cnt (by omega) (by omega)), show k = n by omega]
  | succ d ih =>
    intro f k M l t e1 e2 hlt hc hF hsd
    obtain ⟨f, rfl⟩ : ∃ g, f = g + 1 := ⟨f - 1, by omega⟩
    have eS : lotF (fun l t => cntV F (upG v.2.2.2 l t)) z (k + 1) = (nxS (nxS (lotF (fun l t => cntV F (upG v.2.2.2 l t)) z k).1), if cntV F (upG v.2.2.2 (10 + drN (nxS (lotF (fun l t => cntV F (upG v.2.2.2 l t)) z k).1)) (drN (nxS (nxS (lotF (fun l t => cntV F (upG v.2.2.2 l t)) z k).1)))) = -9 then ((lotF (fun l t => cntV F (upG v.2.2.2 l t)) z k).2.1, (lotF (fun l t => cntV F (upG v.2.2.2 l t)) z k).2.2 + 1) else ((lotF (fun l t => cntV F (upG v.2.2.2 l t)) z k).2.1 + cntV F (upG v.2.2.2 (10 + drN (nxS (lotF (fun l t => cntV F (upG v.2.2.2 l t)) z k).1)) (drN (nxS (nxS (lotF (fun l t => cntV F (upG v.2.2.2 l t)) z k).1)))), (lotF (fun l t => cntV F (upG v.2.2.2 l t)) z k).2.2)) := rfl
    have ihs := ih f (k + 1)
    rw [eS] at ihs
    generalize lotF (fun l t => cntV F (upG v.2.2.2 l t)) z k = w at hsd ihs ⊢
    have d1 := drN_b (nxS w.1)
    have d2 := drN_b (nxS (nxS w.1))
    obtain ⟨M1, hM1⟩ : ∃ M1, M1 = si M 0 10 (nxS w.1) := ⟨_, rfl⟩
    have g1 : f_X8_drawBelow41 M = some (iz (drN (nxS w.1)), M1) := by rw [hM1]; exact c_draw hsd
    obtain ⟨M2, hM2⟩ : ∃ M2, M2 = si M1 0 10 (nxS (nxS w.1)) := ⟨_, rfl⟩
    have g2 : f_X8_drawBelow41 M1 = some (iz (drN (nxS (nxS w.1))), M2) := by rw [hM2]; exact c_draw (by rw [hM1, gi_si, if_pos ⟨rfl, rfl⟩])
    obtain ⟨M3, hM3⟩ : ∃ M3, M3 = si M2 12 7 (iz (drN (nxS (nxS w.1)))) := ⟨_, rfl⟩
    have hc2 : cPar M2 12 (setN v (upG v.2.2.2 l t)) := hc.same (by rw [hM2, hM1]; exact (sameOn.si (by omega)).tr (sameOn.si (by omega)))
    have hc3 : cPar M3 12 (setN v (up (upG v.2.2.2 l t) 4 (drN (nxS (nxS w.1))))) := by
      have := hc2.num (i := 4) (z := drN (nxS (nxS w.1)))
      rw [hM3]; exact this
    have hF3 : cFr M3 F := hF.same (by rw [hM3, hM2, hM1]; exact ((sameOn.si (by omega)).tr (sameOn.si (by omega))).tr (sameOn.si (by omega)))
    have hsG := upG_ok hv.2.2.2.2.2 (l := 10 + drN (nxS w.1)) (t := drN (nxS (nxS w.1))) (by omega) (by omega) (by omega) (by omega)
    obtain ⟨M4, r1, r2, r3, -, r5⟩ := c_lw (v := v) (f := up (upG v.2.2.2 l t) 4 (drN (nxS (nxS w.1)))) (n := 10 + drN (nxS w.1)) hv hk (by rw [upG_c]; exact hsG) hc3 hF3
    rw [upG_c] at r1 r2
    have hs4 : gi M4 0 10 = nxS (nxS w.1) := by rw [(r5 0 (by omega)).1, hM3, gi_si, if_neg (by omega), hM2, gi_si, if_pos ⟨rfl, rfl⟩]
    obtain ⟨M', q1, q2⟩ := ihs M4 _ _ (by omega) (by omega) hsG r2 r3 hs4
    have k4 : keepC M M4 := by
      have a1 : keepC M M1 := by rw [hM1]; exact keepC.seed
      have a2 : keepC M1 M2 := by rw [hM2]; exact keepC.seed
      have a3 : keepC M2 M3 := by rw [hM3]; exact keepC.of (sameOn.si (by omega))
      exact ((a1.tr a2).tr a3).tr (keepC.lw r5)
    refine ⟨M', ?_, k4.tr q2⟩
    rw [lq4_s]
    generalize lq4 (f_X8_lots_L54 (iz (n : Int))) f = K at q1 ⊢
    unfold f_X8_lots_L54
    have e10 : (10 : Int32) + iz (drN (nxS w.1)) = iz (10 + drN (nxS w.1)) := by rw [show (10 : Int32) = iz (10 : Int) from rfl, iz_add]
    rw [if_neg (nle_cnt (by omega) (by omega)), g1, b_s2, nmq_q, g2, b_s2, nmq_q, ← hM3, e10, r1, b_s2]
    have hb := cntV_b hk (s := upG v.2.2.2 (10 + drN (nxS w.1)) (drN (nxS (nxS w.1))))
    by_cases c1 : cntV F (upG v.2.2.2 (10 + drN (nxS w.1)) (drN (nxS (nxS w.1)))) = -9
    · rw [if_pos c1] at q1
      rw [if_pos (show iz (cntV F (upG v.2.2.2 (10 + drN (nxS w.1)) (drN (nxS (nxS w.1))))) = (-9 : Int32) by rw [c1]; decide), nmq_q, nmq_q, iz_s, show (1 : Int32) = iz (1 : Int) from rfl, iz_add]; exact q1
    · rw [if_neg c1] at q1
      rw [if_neg (show ¬ iz (cntV F (upG v.2.2.2 (10 + drN (nxS w.1)) (drN (nxS (nxS w.1))))) = (-9 : Int32) from neq_iz (b := -9) (by omega) (by omega) (by omega) (by omega) c1), nmq_q, nmq_q, iz_s, iz_add]; exact q1
theorem m_lotL {v : PV} (hv : okV v) {z : Int32} {n : Nat} (hn : n ≤ 20) {p3 : Int32} : ∀ (d f k : Nat) (M : Mem) (l t : Int), k + d = n → d < f → okS (upG v.2.2.2 l t) → mPar (rdNow M) (setN v (upG v.2.2.2 l t)) → gi M 139 53 = (lotF (fun l t => cntV (frs v 0 v.1) (upG v.2.2.2 l t)) z k).1 →
    ∃ M', lq3 (f_X9_lots_L62 (iz (n : Int)) p3) f (iz (if p3 = 0 then (lotF (fun l t => cntV (frs v 0 v.1) (upG v.2.2.2 l t)) z k).2.1 else (lotF (fun l t => cntV (frs v 0 v.1) (upG v.2.2.2 l t)) z k).2.2)) (iz (k : Int)) M = some (iz (if p3 = 0 then (lotF (fun l t => cntV (frs v 0 v.1) (upG v.2.2.2 l t)) z n).2.1 else (lotF (fun l t => cntV (frs v 0 v.1) (upG v.2.2.2 l t)) z n).2.2), M') ∧ kX (fun j => j = 11 ∨ j = 15) M M' := by
  have hk : okFs (frs v 0 v.1) := frs_okFs hv (fun q hq => hq) (Nat.le_refl _)
  intro d
  induction d with
  | zero =>
    intro f k M l t e1 e2 hlt hm hsd
    obtain ⟨f, rfl⟩ : ∃ g, f = g + 1 := ⟨f - 1, by omega⟩
    refine ⟨M, ?_, kX.rf⟩
    rw [lq3_s]
    generalize lq3 (f_X9_lots_L62 (iz (n : Int)) p3) f = K
    unfold f_X9_lots_L62
    rw [if_pos (le_cnt (by omega) (by omega)), show k = n by omega]
  | succ d ih =>
    intro f k M l t e1 e2 hlt hm hsd
    obtain ⟨f, rfl⟩ : ∃ g, f = g + 1 := ⟨f - 1, by omega⟩
    have ihs := ih f (k + 1)
    have eS : lotF (fun l t => cntV (frs v 0 v.1) (upG v.2.2.2 l t)) z (k + 1) = (nxS (nxS (lotF (fun l t => cntV (frs v 0 v.1) (upG v.2.2.2 l t)) z k).1), if cntV (frs v 0 v.1) (upG v.2.2.2 (10 + drN (nxS (lotF (fun l t => cntV (frs v 0 v.1) (upG v.2.2.2 l t)) z k).1)) (drN (nxS (nxS (lotF (fun l t => cntV (frs v 0 v.1) (upG v.2.2.2 l t)) z k).1)))) = -9 then ((lotF (fun l t => cntV (frs v 0 v.1) (upG v.2.2.2 l t)) z k).2.1, (lotF (fun l t => cntV (frs v 0 v.1) (upG v.2.2.2 l t)) z k).2.2 + 1) else ((lotF (fun l t => cntV (frs v 0 v.1) (upG v.2.2.2 l t)) z k).2.1 + cntV (frs v 0 v.1) (upG v.2.2.2 (10 + drN (nxS (lotF (fun l t => cntV (frs v 0 v.1) (upG v.2.2.2 l t)) z k).1)) (drN (nxS (nxS (lotF (fun l t => cntV (frs v 0 v.1) (upG v.2.2.2 l t)) z k).1)))), (lotF (fun l t => cntV (frs v 0 v.1) (upG v.2.2.2 l t)) z k).2.2)) := rfl
    rw [eS] at ihs
    generalize lotF (fun l t => cntV (frs v 0 v.1) (upG v.2.2.2 l t)) z k = w at hsd ihs ⊢
    have d1 := drN_b (nxS w.1)
    have d2 := drN_b (nxS (nxS w.1))
    obtain ⟨M1, hM1⟩ : ∃ M1, M1 = si M 139 53 (nxS w.1) := ⟨_, rfl⟩
    have g1 : f_X9_draw (41 : Int32) M = some (iz (drN (nxS w.1)), M1) := by rw [hM1]; exact m_draw hsd
    obtain ⟨M2, hM2⟩ : ∃ M2, M2 = si M1 139 11 (iz (10 + drN (nxS w.1))) := ⟨_, rfl⟩
    obtain ⟨M3, hM3⟩ : ∃ M3, M3 = si M2 139 53 (nxS (nxS w.1)) := ⟨_, rfl⟩
    have g3 : f_X9_draw (41 : Int32) M2 = some (iz (drN (nxS (nxS w.1))), M3) := by rw [hM3]; exact m_draw (by rw [hM2, gi_si, if_neg (by omega), hM1, gi_si, if_pos ⟨rfl, rfl⟩])
    obtain ⟨M4, hM4⟩ : ∃ M4, M4 = si M3 139 15 (iz (drN (nxS (nxS w.1)))) := ⟨_, rfl⟩
    have seedK : ∀ {N : Mem} {x : Int32} {u : PV}, okV u → mPar (rdNow N) u → mPar (rdNow (si N 139 53 x)) u := fun {N x u} hu hN => hN.congr hu (rdNow.congr (sameOn.si (by omega)) (fun j q1 q2 => by rw [gi_si, if_neg (by omega)]))
    have hm1 : mPar (rdNow M1) (setN v (upG v.2.2.2 l t)) := by rw [hM1]; exact seedK (hv.setN hlt) hm
    have hl0 : okS (up (upG v.2.2.2 l t) 0 (10 + drN (nxS w.1))) := okS_up0 hlt (by omega) (by omega)
    have hm2 : mPar (rdNow M2) (setN v (up (upG v.2.2.2 l t) 0 (10 + drN (nxS w.1)))) := by
      have := hm1.num (hv.setN hlt) (i := 0) (z := 10 + drN (nxS w.1)) (by omega)
      rw [hM2]; exact this
    have hm3 : mPar (rdNow M3) (setN v (up (upG v.2.2.2 l t) 0 (10 + drN (nxS w.1)))) := by rw [hM3]; exact seedK (hv.setN hl0) hm2
    have hm4 : mPar (rdNow M4) (setN v (upG v.2.2.2 (10 + drN (nxS w.1)) (drN (nxS (nxS w.1))))) := by
      have := hm3.num (hv.setN hl0) (i := 4) (z := drN (nxS (nxS w.1))) (by omega)
      rw [hM4, ← upG_m]; exact this
    have hsG := upG_ok hv.2.2.2.2.2 (l := 10 + drN (nxS w.1)) (t := drN (nxS (nxS w.1))) (by omega) (by omega) (by omega) (by omega)
    obtain ⟨M5, r1, r2, r3, r4⟩ := m_find (hv.setN hsG) hm4
    have r1 : f_X9_findLines M4 = some (iz (cntV (frs (setN v (upG v.2.2.2 (10 + drN (nxS w.1)) (drN (nxS (nxS w.1))))) 0 v.1) (upG v.2.2.2 (10 + drN (nxS w.1)) (drN (nxS (nxS w.1))))), M5) := r1
    rw [frs_congr (v := v) (v' := setN v (upG v.2.2.2 (10 + drN (nxS w.1)) (drN (nxS (nxS w.1))))) rfl rfl rfl rfl v.1 0] at r1
    have hs5 : gi M5 139 53 = nxS (nxS w.1) := by rw [r4.2 53 (by omega) (by omega), hM4, gi_si, if_neg (by omega), hM3, gi_si, if_pos ⟨rfl, rfl⟩]
    obtain ⟨M', q1, q2⟩ := ihs M5 _ _ (by omega) (by omega) hsG (r4.par (hv.setN hsG) hm4) hs5
    have k5 : kX (fun j => j = 11 ∨ j = 15) M M5 := by
      have a1 : kX (fun j => j = 11 ∨ j = 15) M M1 := by rw [hM1]; exact kX.si (Or.inr rfl)
      have a2 : kX (fun j => j = 11 ∨ j = 15) M1 M2 := by rw [hM2]; exact kX.si (Or.inl (Or.inl rfl))
      have a3 : kX (fun j => j = 11 ∨ j = 15) M2 M3 := by rw [hM3]; exact kX.si (Or.inr rfl)
      have a4 : kX (fun j => j = 11 ∨ j = 15) M3 M4 := by rw [hM4]; exact kX.si (Or.inl (Or.inr rfl))
      exact (((a1.tr a2).tr a3).tr a4).tr r4.toX
    refine ⟨M', ?_, k5.tr q2⟩
    rw [lq3_s]
    generalize lq3 (f_X9_lots_L62 (iz (n : Int)) p3) f = K at q1 ⊢
    unfold f_X9_lots_L62
    have e10 : iz (drN (nxS w.1)) + (10 : Int32) = iz (10 + drN (nxS w.1)) := by rw [show (10 : Int32) = iz (10 : Int) from rfl, iz_add, Int.add_comm]
    rw [if_neg (nle_cnt (by omega) (by omega)), g1, b_s2, e10, nmq_q, ← hM2, g3, b_s2, nmq_q, ← hM4, r1, b_s2]
    have hb := cntV_b hk (s := upG v.2.2.2 (10 + drN (nxS w.1)) (drN (nxS (nxS w.1))))
    by_cases c1 : cntV (frs v 0 v.1) (upG v.2.2.2 (10 + drN (nxS w.1)) (drN (nxS (nxS w.1)))) = -9
    · rw [if_pos c1] at q1
      have cn : ¬ (0 : Int32) ≤ iz (cntV (frs v 0 v.1) (upG v.2.2.2 (10 + drN (nxS w.1)) (drN (nxS (nxS w.1))))) := by rw [c1]; decide
      by_cases c3 : p3 = 0
      · rw [if_pos c3] at q1 ⊢
        rw [if_pos c3, if_neg cn, nmq_q, nmq_q, nmq_q, iz_s, show (0 : Int32) = iz (0 : Int) from rfl, iz_add, Int.add_zero]; exact q1
      · rw [if_neg c3] at q1 ⊢
        rw [if_neg c3, if_neg cn, nmq_q, nmq_q, nmq_q, iz_s, show (1 : Int32) = iz (1 : Int) from rfl, iz_add]; exact q1
    · rw [if_neg c1] at q1
      have cn : (0 : Int32) ≤ iz (cntV (frs v 0 v.1) (upG v.2.2.2 (10 + drN (nxS w.1)) (drN (nxS (nxS w.1))))) := le_iz (a := 0) (by omega) (by omega) (by omega) (by omega) (by omega)
      by_cases c3 : p3 = 0
      · rw [if_pos c3] at q1 ⊢
        rw [if_pos c3, if_pos cn, nmq_q, nmq_q, nmq_q, iz_s, iz_add]; exact q1
      · rw [if_neg c3] at q1 ⊢
        rw [if_neg c3, if_pos cn, nmq_q, nmq_q, nmq_q, iz_s, show (0 : Int32) = iz (0 : Int) from rfl, iz_add, Int.add_zero]; exact q1
theorem op_lots {M : Mem} (hI : Inv M) (p p' p'' : Int32) : both M (f_X8_lots p p' p'') (f_X9_lots p p' p'') := by
  obtain ⟨z, z1, z2, rfl⟩ := iz_ex p
  obtain ⟨y, y1, y2, rfl⟩ := iz_ex p''
  have ef : f_X8_outside (iz z) (1 : Int32) (20 : Int32) = _ := c_outside (z := z) (lo := 1) (hi := 20) z1 z2 (by omega) (by omega) (by omega) (by omega)
  have eg : f_X9_bound (iz z) (1 : Int32) (20 : Int32) = _ := m_bound (z := z) (lo := 1) (hi := 20) z1 z2 (by omega) (by omega) (by omega) (by omega)
  have eo : f_X8_isOther (iz y) (2 : Int32) = _ := c_isOther (z := y) (n := 2) y1 y2 (by omega) (by omega)
  have ei : f_X9_isIn (iz y) (0 : Int32) (1 : Int32) = _ := m_isIn (z := y) (lo := 0) (hi := 1) y1 y2 (by omega) (by omega) (by omega) (by omega)
  have hf2 : ∀ M, f_X8_lots (iz z) p' (iz y) M = _ := fun M => b1_some ef
  have kn4 : ∀ M', f_X9_no (-4 : Int32) M' = f_X9_no (iz (-((4 : Nat) : Int))) M' := fun _ => rfl
  have kn6 : ∀ M', f_X9_no (-6 : Int32) M' = f_X9_no (iz (-((6 : Nat) : Int))) M' := fun _ => rfl
  have kn2 : ∀ M', f_X9_no (-2 : Int32) M' = f_X9_no (iz (-((2 : Nat) : Int))) M' := fun _ => rfl
  have kc2 : ∀ M', f_X8_refuse (-2 : Int32) M' = f_X8_refuse (iz (-((2 : Nat) : Int))) M' := fun _ => rfl
  by_cases q1 : z < 1
  · rw [if_pos q1] at hf2 eg
    have eg : f_X9_bound (iz z) (1 : Int32) (20 : Int32) = some (-4 : Int32) := eg
    refine both_no hI (v := 4) (by omega) ((hf2 M).trans ?_) (fun M' => ?_)
    · show (if (iz (-4 : Int)) = 0 then _ else _) = _
      rw [if_neg (by decide), b2_id]; rfl
    · simp (decide := true) only [f_X9_lots, eg, b_s1, if_false, b2_id]; exact kn4 _
  by_cases q2 : 20 < z
  · rw [if_neg q1, if_pos q2] at hf2 eg
    have eg : f_X9_bound (iz z) (1 : Int32) (20 : Int32) = some (-6 : Int32) := eg
    refine both_no hI (v := 6) (by omega) ((hf2 M).trans ?_) (fun M' => ?_)
    · show (if (iz (-6 : Int)) = 0 then _ else _) = _
      rw [if_neg (by decide), b2_id]; rfl
    · simp (decide := true) only [f_X9_lots, eg, b_s1, if_false, b2_id]; exact kn6 _
  rw [if_neg q1, if_neg q2] at hf2 eg
  have eg : f_X9_bound (iz z) (1 : Int32) (20 : Int32) = some (0 : Int32) := eg
  by_cases q3 : 0 ≤ y ∧ y < 2
  case neg =>
    rw [if_neg q3] at eo
    rw [if_neg (show ¬ (0 ≤ y ∧ y ≤ 1) by omega)] at ei
    refine both_no hI (v := 2) (by omega) ((hf2 M).trans ?_) (fun M' => ?_)
    · show (if (iz (0 : Int)) = 0 then _ else _) = _
      rw [if_pos (show iz (0 : Int) = 0 from rfl), eo, b_s1, if_neg (by decide), b2_id]; exact kc2 _
    · simp (decide := true) only [f_X9_lots, eg, ei, b_s1, if_true, if_false, b2_id]; exact kn2 _
  rw [if_pos q3] at eo
  rw [if_pos (show 0 ≤ y ∧ y ≤ 1 by omega)] at ei
  obtain ⟨n, rfl⟩ : ∃ n : Nat, z = (n : Int) := ⟨z.toNat, by omega⟩
  have hI' := hI
  obtain ⟨now, img, st, ct, hist, ls, rw_, R, hg, hC, hM⟩ := hI
  have hv := hg.1.1
  have hk : okFs (frs now 0 now.1) := frs_okFs hv (fun q hq => hq) (Nat.le_refl _)
  have hG : upG now.2.2.2 (now.2.2.2 0) (now.2.2.2 4) = now.2.2.2 := by unfold upG; rw [up_same, up_same]
  refine both_ask hI' (r := iz (if iz y = 0 then (lotF (fun l t => cntV (frs now 0 now.1) (upG now.2.2.2 l t)) p' n).2.1 else (lotF (fun l t => cntV (frs now 0 now.1) (upG now.2.2.2 l t)) p' n).2.2)) ?_ (fun M' hs' => ?_)
  · obtain ⟨M1, a1, a2, a3, a4⟩ := c_trial hv hC.1
    have a2' : cPar (si M1 0 10 p') 12 (setN now (upG now.2.2.2 (now.2.2.2 0) (now.2.2.2 4))) := by rw [hG]; exact a2.same (sameOn.si (by omega))
    obtain ⟨M2, b1, b2⟩ := c_lotL hv hk (z := p') (n := n) (by omega) n FU 0 (si M1 0 10 p') _ _ (by omega) (by rw [FU_eq]; omega) (by rw [hG]; exact hv.2.2.2.2.2) a2' (a3.same (sameOn.si (by omega))) (by rw [gi_si, if_pos ⟨rfl, rfl⟩]; rfl)
    refine ⟨M2, ((keepC.of (a4.mono (fun a ha => by omega))).tr keepC.seed).tr b2, (hf2 M).trans ?_⟩
    have b1' : lq4 (f_X8_lots_L54 (iz (n : Int))) FU (0 : Int32) (0 : Int32) (0 : Int32) (si M1 0 10 p') = _ := b1
    show (if (iz (0 : Int)) = 0 then _ else _) = _
    rw [if_pos (show iz (0 : Int) = 0 from rfl), eo, b_s1, if_pos rfl, a1, b_s1, nmq_q, b1']
    show (if iz y = 0 then _ else _) = _
    by_cases c : iz y = 0
    · rw [if_pos c, if_pos c]
    · rw [if_neg c, if_neg c]
  · have hm := (hM.same hg hs').1
    have hm6 : mPar (rdNow (si M' 139 53 p')) (setN now (upG now.2.2.2 (now.2.2.2 0) (now.2.2.2 4))) := by
      rw [hG]; exact hm.congr hv (rdNow.congr (sameOn.si (by omega)) (fun j q1 q2 => by rw [gi_si, if_neg (by omega)]))
    obtain ⟨M2, b1, b2⟩ := m_lotL hv (z := p') (n := n) (by omega) (p3 := iz y) n FU 0 (si M' 139 53 p') _ _ (by omega) (by rw [FU_eq]; omega) (by rw [hG]; exact hv.2.2.2.2.2) hm6 (by rw [gi_si, if_pos ⟨rfl, rfl⟩]; rfl)
    have e0 : iz (if iz y = 0 then (lotF (fun l t => cntV (frs now 0 now.1) (upG now.2.2.2 l t)) p' 0).2.1 else (lotF (fun l t => cntV (frs now 0 now.1) (upG now.2.2.2 l t)) p' 0).2.2) = (0 : Int32) := by
      by_cases c : iz y = 0
      · rw [if_pos c]; rfl
      · rw [if_neg c]; rfl
    rw [e0] at b1
    have b1' : lq3 (f_X9_lots_L62 (iz (n : Int)) (iz y)) FU (0 : Int32) (0 : Int32) (si M' 139 53 p') = _ := b1
    have h11 : gi (si M' 139 53 p') 139 11 = gi M' 139 11 := by rw [gi_si, if_neg (by omega)]
    have h15 : gi (si M' 139 53 p') 139 15 = gi M' 139 15 := by rw [gi_si, if_neg (by omega)]
    refine ⟨si (si M2 139 11 (gi M' 139 11)) 139 15 (gi M' 139 15), ?_, ?_⟩
    · refine ((((kX.si (J := fun j => j = 11 ∨ j = 15) (Or.inr rfl)).tr b2).tr (kX.si (Or.inl (Or.inl rfl)))).tr (kX.si (Or.inl (Or.inr rfl)))).keep (fun j hj => ?_)
      rcases hj with r | r
      · rw [r, gi_si, if_neg (by omega), gi_si, if_pos ⟨rfl, rfl⟩]
      · rw [r, gi_si, if_pos ⟨rfl, rfl⟩]
    · unfold f_X9_lots
      rw [eg, b_s1, if_pos rfl, ei, b_s1, if_neg (by decide), b_s1, if_pos rfl, nmq_q, nmq_q, nmq_q, h11, h15, b1', b_s2, nmq_q, nmq_q]
