/-! the other tellings of the reference -/
theorem m_tForced {v : PV} (hv : okV v) {M : Mem} (hm : mPar (rdNow M) v) :
    ∃ M', f_X9_comesForced M = some ((if v.1.length = 0 then 0 else 1), M') ∧ (∀ w, v.1[v.1.length - 1]? = some w → mPar (rdNow M') (turnW v.1 (v.1.length - 1) w, v.2)) ∧ kZ M M' := by
  have h16 := hv.1
  have h9 := hm.count
  unfold f_X9_comesForced
  rw [h9]
  by_cases q : v.1.length = 0
  · rw [if_pos (by rw [q]; rfl), if_pos q]
    refine ⟨M, rfl, fun w hw => ?_, kZ.rf⟩
    have := (List.getElem?_eq_some_iff.mp hw).1
    omega
  obtain ⟨q0, hw⟩ : ∃ w, v.1[v.1.length - 1]? = some w := ⟨_, List.getElem?_eq_getElem (by omega)⟩
  have hq := hv.2.1 q0 (List.mem_of_getElem? hw)
  obtain ⟨a, ha⟩ : ∃ a, a = v.1.length - 1 := ⟨_, rfl⟩
  rw [← ha] at hw
  have a16 : a < 16 := by omega
  have e1 : (1 : Int32) - iz (q0.2 : Int) = iz ((1 - q0.2 : Nat) : Int) := by
    rw [show (1 : Int32) = iz (1 : Int) from rfl, iz_sub]; congr 1; have := hq.2; omega
  have e2 : iz (v.1.length : Int) - (1 : Int32) = iz (a : Int) := by
    rw [show (1 : Int32) = iz (1 : Int) from rfl, iz_sub]; congr 1; omega
  have hb : blkOf 144 16 216 := by unfold blkOf; omega
  have e0 : gi M 144 a = iz q0.2 := by
    rw [← rd_in M hb a a16]; exact (hm.2.1 a q0 hw).2.2
  have hset : ∀ (w : Nat) (q' : Word), (turnW v.1 a q0)[w]? = some q' → (w = a ∧ q' = (q0.1, 1 - q0.2)) ∨ (w ≠ a ∧ v.1[w]? = some q') := fun w q' hw' => by
    unfold turnW at hw'
    rw [List.getElem?_set] at hw'
    by_cases r : a = w
    · rw [if_pos r, if_pos (by omega)] at hw'
      cases hw'; exact Or.inl ⟨r.symm, rfl⟩
    · rw [if_neg r] at hw'
      exact Or.inr ⟨fun e => r e.symm, hw'⟩
  have hlen : (turnW v.1 a q0).length = v.1.length := List.length_set
  rw [if_neg (show ¬ iz (v.1.length : Int) = 0 from ne_cnt (i := 0) q (by omega) (by omega)), if_neg q, e2, g_t (inB_n a16 (by omega)), g_t (inB_n a16 (by omega)), nmq_q]
  have hcl : (iz (a : Int) : Int32).toNatClampNeg = a := clN (by omega)
  rw [hcl, e0, e1]
  refine ⟨si M 144 a (iz ((1 - q0.2 : Nat) : Int)), rfl, fun w hw' => ?_, kZ.of (sameOn.si (by omega))⟩
  rw [← ha] at hw' ⊢
  rw [hw] at hw'; cases hw'
  have hr := fun o ho => rd_si (M := M) (x := iz ((1 - q0.2 : Nat) : Int)) hb a16 o ho
  refine hm.words hv ?_ (fun w q' hw => ?_) (fun o ho => ?_)
  · rw [hr _ (by omega), if_neg (by omega), hm.1, hlen]
  · have hw16 : w < 16 := by have := (List.getElem?_eq_some_iff.mp hw).1; omega
    rcases hset w q' hw with ⟨r1, r2⟩ | ⟨r1, r2⟩
    · obtain ⟨b1, b2, b3⟩ := hm.2.1 a q0 (by assumption)
      rw [r1, r2]
      refine ⟨by rw [hr _ (by omega), if_neg (by omega)]; exact b1, fun k x hk => ?_, by rw [hr _ (by omega), if_pos rfl]⟩
      have hk2 : k < 12 := Nat.lt_of_lt_of_le (List.getElem?_eq_some_iff.mp hk).1 hq.1.2.1
      rw [hr _ (by omega), if_neg (by omega)]; exact b2 k x hk
    · obtain ⟨b1, b2, b3⟩ := hm.2.1 w q' r2
      refine ⟨by rw [hr _ (by omega), if_neg (by omega)]; exact b1, fun k x hk => ?_, by rw [hr _ (by omega), if_neg (by omega)]; exact b3⟩
      have hk2 : k < 12 := Nat.lt_of_lt_of_le (List.getElem?_eq_some_iff.mp hk).1 (hv.2.1 q' (List.mem_of_getElem? r2)).1.2.1
      rw [hr _ (by omega), if_neg (by omega)]; exact b2 k x hk
  · rw [hr _ (by omega), if_neg (by omega)]
theorem m_pTL {ls : List Nat} (hl : okSh ls) {i p a : Nat} (hi : i < 49) (ha : a = lrun ls 3 p) : ∀ (d f k : Nat) (M : Mem), k + d = a → d < f → mSg M ls → gi M 160 i = iz (p : Int) →
    ∃ M', lq2 (f_X9_comesPatternTold_L11 (iz (i : Int)) (iz (a : Int))) f (iz (k : Int)) M = some M' ∧ (∀ t, k ≤ t → t < a → gi M' 162 t = iz (((sg ls (p + t) - 97).toNat : Nat) : Int)) ∧ (∀ t, t < k → gi M' 162 t = gi M 162 t) ∧ sameOn (fun k => k ≠ 162) M M' := by
  have h96 := hl.1
  have hle := lrun_le (ls := ls) 3 p
  have hcl : (iz (i : Int) : Int32).toNatClampNeg = i := clN (by omega)
  intro d
  induction d with
  | zero =>
    intro f k M e1 e2 hs h160
    obtain ⟨f, rfl⟩ : ∃ g, f = g + 1 := ⟨f - 1, by omega⟩
    refine ⟨M, ?_, fun t h1 h2 => by omega, fun _ _ => rfl, sameOn.rf⟩
    rw [lq2_s]
    generalize lq2 (f_X9_comesPatternTold_L11 (iz (i : Int)) (iz (a : Int))) f = K
    unfold f_X9_comesPatternTold_L11
    rw [if_pos (le_cnt (by omega) (by omega))]
  | succ d ih =>
    intro f k M e1 e2 hs h160
    obtain ⟨f, rfl⟩ : ∃ g, f = g + 1 := ⟨f - 1, by omega⟩
    obtain ⟨b1, b2⟩ := m_let hs (lrun_let (ls := ls) 3 p k (by omega))
    obtain ⟨M1, e1'⟩ : ∃ M1, M1 = si M 162 k (iz (((sg ls (p + k) - 97).toNat : Nat) : Int)) := ⟨_, rfl⟩
    have s1 : sameOn (fun k => k ≠ 162) M M1 := by rw [e1']; exact sameOn.si (by omega)
    obtain ⟨M', r1, r2, r3, r4⟩ := ih f (k + 1) M1 (by omega) (by omega) (fun i a ha => by rw [(s1 156 (by omega)).1]; exact hs i a ha) (by rw [(s1 160 (by omega)).1]; exact h160)
    refine ⟨M', ?_, fun t h1 h2 => ?_, fun t ht => by rw [r3 t (by omega), e1', gi_si, if_neg (by omega)], s1.tr r4⟩
    · have i1 : iz (p : Int) + iz (k : Int) = iz ((p + k : Nat) : Int) := iz_add _ _
      have c1 : (iz (k : Int) : Int32).toNatClampNeg = k := clN (by omega)
      have c2 : (iz ((p + k : Nat) : Int) : Int32).toNatClampNeg = p + k := clN (by omega)
      rw [lq2_s]
      generalize lq2 (f_X9_comesPatternTold_L11 (iz (i : Int)) (iz (a : Int))) f = K at r1 ⊢
      unfold f_X9_comesPatternTold_L11
      rw [if_neg (nle_cnt (by omega) (by omega)), g_t (inB_n hi (by omega)), hcl, h160, i1, g_t (inB_n (by omega) (by omega)), g_t (inB_n (by omega) (by omega)), nmq_q, nmq_q, c1, c2, b2, ← e1', iz_s]; exact r1
    · by_cases q : t = k
      · rw [q, r3 k (by omega), e1', gi_si, if_pos ⟨rfl, rfl⟩]
      · exact r2 t (by omega) h2
theorem m_tPattern {ls : List Nat} (hl : okSh ls) {v : PV} (hv : okV v) {i p X Y : Nat} (hi : i < 49) (hX : X ≤ 9) (hY : Y ≤ 9) {M : Mem} (hs : mSg M ls) (h160 : gi M 160 i = iz (p : Int)) (h161 : gi M 161 i = iz (lrun ls 3 p : Int)) (hm : mPar (rdNow M) v) :
    ∃ M', f_X9_comesPatternTold (iz (i : Int)) (iz (X : Int)) (iz (Y : Int)) M = some ((if (X : Int) ≤ (lrun ls 3 p : Int) ∧ 1 ≤ (Y : Int) ∧ ixF (patIs (lts ls (lrun ls 3 p) p) X) v.2.1 < 8 then 1 else 0), M') ∧ ((X : Int) ≤ (lrun ls 3 p : Int) ∧ 1 ≤ (Y : Int) ∧ ixF (patIs (lts ls (lrun ls 3 p) p) X) v.2.1 < 8 → mPar (rdNow M') (v.1, putP v.2.1 (ixF (patIs (lts ls (lrun ls 3 p) p) X) v.2.1) (lts ls (lrun ls 3 p) p, X, Y), v.2.2)) ∧ kZ M M' := by
  have hle := lrun_le (ls := ls) 3 p
  have hlt := lts_lt (ls := ls) 3 p
  have hll := lts_len (ls := ls) (lrun ls 3 p) p
  have hcl : (iz (i : Int) : Int32).toNatClampNeg = i := clN (by omega)
  obtain ⟨M7, r1, r2, -, r4⟩ := m_pTL hl (i := i) (p := p) hi rfl (lrun ls 3 p) FU 0 M (by omega) (by rw [FU_eq]; omega) hs h160
  have r1' : lq2 (f_X9_comesPatternTold_L11 (iz (i : Int)) (iz (lrun ls 3 p : Int))) FU (0 : Int32) M = _ := r1
  have k7 : kZ M M7 := kZ.of (r4.mono (fun a ha => by omega))
  have hm7 : mPar (rdNow M7) v := hm.congr hv (rdNow.congr (r4.mono (fun a ha => by omega)) (fun j _ _ => by rw [(r4 139 (by omega)).1]))
  have hc : ∀ (k b : Nat), (lts ls (lrun ls 3 p) p)[k]? = some b → gi M7 162 k = iz (b : Int) := fun k b hk => by
    have hk2 : k < lrun ls 3 p := by have := (List.getElem?_eq_some_iff.mp hk).1; rw [lts_len] at this; exact this
    rw [r2 k (by omega) hk2, lts_at _ _ _ _ hk]
  obtain ⟨x, x1, x2⟩ := m_place (M := M7) (ps := v.2.1) hm7.pcount hv.2.2.1 (m := lrun ls 3 p) hle (iz (X : Int))
  have hx := x2 (patIs (lts ls (lrun ls 3 p) p) X) (by rw [← hll]; rw [hll]; have := m_isIt hv hm7 (l := lts ls (lrun ls 3 p) p) (p := X) (by rw [hll]; exact hle) hc hlt (by omega); rw [hll] at this; exact this)
  have hixl := ixF_le (patIs (lts ls (lrun ls 3 p) p) X) v.2.1
  have h8 := hv.2.2.1
  unfold f_X9_comesPatternTold
  rw [g_t (inB_n hi (by omega)), nmq_q, hcl, h161, r1', b_s1, x1, b_s1, hx]
  by_cases q1 : lrun ls 3 p < X
  · rw [if_pos (show iz (lrun ls 3 p : Int) < iz (X : Int) from lt_iz (by omega) (by omega) (by omega) (by omega) (by omega)), if_neg (fun h => by omega)]
    exact ⟨M7, rfl, fun h => by omega, k7⟩
  rw [if_neg (fun e => q1 (by have := (iz_lt (a := (lrun ls 3 p : Int)) (b := (X : Int)) (by omega) (by omega) (by omega) (by omega)).mp e; omega))]
  by_cases q2 : Y < 1
  · rw [if_pos (show iz (Y : Int) < (1 : Int32) from lt_iz (b := 1) (by omega) (by omega) (by omega) (by omega) (by omega)), if_neg (fun h => by omega)]
    exact ⟨M7, rfl, fun h => by omega, k7⟩
  rw [if_neg (fun e => q2 (by have := (iz_lt (a := (Y : Int)) (b := 1) (by omega) (by omega) (by omega) (by omega)).mp e; omega))]
  by_cases q3 : ixF (patIs (lts ls (lrun ls 3 p) p) X) v.2.1 < 8
  · obtain ⟨M', e4, w1, w2, w3, w4⟩ := m_comes (M := M7) (l := lts ls (lrun ls 3 p) p) (p := X) (x := Y) hv hm7 (by rw [hll]; exact hle) hc hixl q3
    rw [hll] at e4
    have hP : (X : Int) ≤ (lrun ls 3 p : Int) ∧ 1 ≤ (Y : Int) ∧ ixF (patIs (lts ls (lrun ls 3 p) p) X) v.2.1 < 8 := ⟨by omega, by omega, q3⟩
    rw [if_neg (show ¬ iz ((ixF (patIs (lts ls (lrun ls 3 p) p) X) v.2.1 : Nat) : Int) = (8 : Int32) from ne_cnt (i := 8) (by omega) (by omega) (by omega)), e4, b_s1, if_pos hP]
    exact ⟨M', rfl, fun _ => w2, k7.tr ⟨w3.mono (fun a ha => by omega), fun j hj => w4 j (by omega)⟩⟩
  · rw [if_pos (show iz ((ixF (patIs (lts ls (lrun ls 3 p) p) X) v.2.1 : Nat) : Int) = (8 : Int32) by rw [show ixF (patIs (lts ls (lrun ls 3 p) p) X) v.2.1 = 8 by omega]; rfl), if_neg (fun h => q3 h.2.2)]
    exact ⟨M7, rfl, fun h => absurd h.2.2 q3, k7⟩
