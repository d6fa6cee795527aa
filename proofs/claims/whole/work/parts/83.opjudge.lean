/-! judge, whatIs -/
def jdg (rw_ L : List Nat) : Nat → Nat → Int
  | 0, _ => -9
  | d + 1, k => if rw_.length ≤ k then (if L.length ≤ rw_.length then -9 else (rw_.length : Int)) else if L.length ≤ k then (k : Int) else if rw_[k]? = L[k]? then jdg rw_ L d (k + 1) else (k : Int)
/-- the begins of the lines, none if there are none -/
def bgL (F : List Fr) (s : Nat → Int) : List Nat := if (bst F s F.length).isSome = true then bgs F s F.length else []
theorem bgL_len {F : List Fr} (hk : okFs F) {s : Nat → Int} : (bgL F s).length ≤ 160 ∧ ((bst F s F.length).isSome = true → cntV F s = ((bgL F s).length : Int)) := by
  have hl := hk.1
  unfold bgL
  by_cases q : (bst F s F.length).isSome = true
  · rw [if_pos q]
    have := bgs_len (F := F) (s := s) F.length F.length (Nat.le_refl _) q
    refine ⟨by omega, fun _ => ?_⟩
    unfold cntV
    cases hb : bst F s F.length with
    | none => rw [hb] at q; cases q
    | some x => rfl
  · rw [if_neg q]; exact ⟨Nat.zero_le _, fun h => absurd h q⟩
theorem cSol.L {M : Mem} {F : List Fr} {s : Nat → Int} (h : cSol M F s) : gi M 126 3 = iz ((bgL F s).length : Int) ∧ ∀ t a : Nat, (bgL F s)[t]? = some a → gi M 132 t = iz (a : Int) := by
  obtain ⟨_, h2, h3⟩ := h
  unfold bgL
  by_cases q : (bst F s F.length).isSome = true
  · rw [if_pos q] at h2 ⊢; exact ⟨h2, h3 q⟩
  · rw [if_neg q] at h2 ⊢; exact ⟨h2, fun t a h => by simp at h⟩
theorem row_lt {rw_ : List Nat} (h : ∀ a ∈ rw_, a ≤ 99) {k : Nat} (hk : k < rw_.length) : ∃ a, rw_[k]? = some a ∧ a ≤ 99 := ⟨rw_[k], List.getElem?_eq_getElem hk, h _ (List.getElem_mem hk)⟩
theorem bgs_lt {F : List Fr} (hk : okFs F) {s : Nat → Int} {k : Nat} (h : k < (bgL F s).length) : ∃ a, (bgL F s)[k]? = some a ∧ a ≤ 160 := by
  have hl := hk.1
  refine ⟨(bgL F s)[k], List.getElem?_eq_getElem h, ?_⟩
  have he := List.getElem?_eq_getElem h
  by_cases q : (bst F s F.length).isSome = true
  · have e : bgL F s = bgs F s F.length := by unfold bgL; rw [if_pos q]
    have h2 : (bgs F s F.length)[k]? = some ((bgL F s)[k]) := by rw [← e]; exact he
    have := bgs_ok q h2
    omega
  · have e : (bgL F s).length = 0 := by unfold bgL; rw [if_neg q]; rfl
    omega
theorem c_jdgL {M : Mem} {F : List Fr} (hk : okFs F) {s : Nat → Int} (hS : cSol M F s) {rw_ : List Nat} (h8 : gi M 0 8 = iz (rw_.length : Int)) (hr : ∀ (i a : Nat), rw_[i]? = some a → gi M 137 i = iz (a : Int)) (h16 : rw_.length ≤ 16) (h99 : ∀ a ∈ rw_, a ≤ 99) : ∀ (d f k : Nat), rw_.length - k < d → d ≤ f → k ≤ rw_.length → lq1 (f_X8_firstNotSo_L2 M) f (iz (k : Int)) = some (iz (jdg rw_ (bgL F s) d k)) := by
  have a137 : alen 137 = 16 := rfl
  have a132 : alen 132 = 192 := rfl
  obtain ⟨c1, c2⟩ := hS.L
  have hL := (bgL_len hk (s := s)).1
  intro d
  induction d with
  | zero => intro f k h; omega
  | succ d ih =>
    intro f k e1 e2 e3
    obtain ⟨f, rfl⟩ : ∃ g, f = g + 1 := ⟨f - 1, by omega⟩
    rw [lq1_s]
    show _ = some (iz (if rw_.length ≤ k then (if (bgL F s).length ≤ rw_.length then -9 else (rw_.length : Int)) else if (bgL F s).length ≤ k then (k : Int) else if rw_[k]? = (bgL F s)[k]? then jdg rw_ (bgL F s) d (k + 1) else (k : Int)))
    by_cases q : rw_.length ≤ k
    · generalize lq1 (f_X8_firstNotSo_L2 M) f = K
      unfold f_X8_firstNotSo_L2
      rw [h8, c1, if_pos (le_cnt q (by omega)), if_pos q]
      by_cases q2 : (bgL F s).length ≤ rw_.length
      · rw [if_pos (le_cnt q2 (by omega)), if_pos q2]; rfl
      · rw [if_neg (nle_cnt (by omega) (by omega)), if_neg q2]
    · have ih' := ih f (k + 1) (by omega) (by omega) (by omega)
      generalize lq1 (f_X8_firstNotSo_L2 M) f = K at ih' ⊢
      unfold f_X8_firstNotSo_L2
      rw [h8, c1, if_neg (nle_cnt (by omega) (by omega)), if_neg q]
      by_cases q2 : (bgL F s).length ≤ k
      · rw [if_pos (le_cnt q2 (by omega)), if_pos q2]
      · obtain ⟨a, ha, ha9⟩ := row_lt h99 (k := k) (by omega)
        obtain ⟨b, hb, hb9⟩ := bgs_lt hk (s := s) (k := k) (by omega)
        rw [if_neg (nle_cnt (by omega) (by omega)), if_neg q2, c_at a137 (by omega) (by omega), b_s1, c_at a132 (by omega) (by omega), b_s1, hr k a ha, c2 k b hb, ha, hb]
        by_cases q3 : a = b
        · rw [if_pos (by rw [q3]), if_pos (by rw [q3]), nmq_q, iz_s]; exact ih'
        · rw [if_neg (ne_cnt q3 (by omega) (by omega)), if_neg (fun e => q3 (Option.some.inj e))]
theorem mSol.L {M : Mem} {F : List Fr} (hk : okFs F) {s : Nat → Int} (h : mSol M F s) : (if (0 : Int32) ≤ iz (cntV F s) then ((gi M 139 29)) else ((0 : Int32))) = iz ((bgL F s).length : Int) ∧ ∀ t a : Nat, (bgL F s)[t]? = some a → gi M 155 t = iz (a : Int) := by
  obtain ⟨h1, h2⟩ := h
  have hb := cntV_b hk (s := s)
  have hL := bgL_len hk (s := s)
  by_cases q : (bst F s F.length).isSome = true
  · have h3 := (h2 q).2.2
    have hc := hL.2 q
    refine ⟨?_, ?_⟩
    · rw [if_pos (show (0 : Int32) ≤ iz (cntV F s) from le_iz (a := 0) (by omega) (by omega) (by omega) (by omega) (by omega)), h1, hc]
    · unfold bgL; rw [if_pos q]; exact h3
  · have hn : bst F s F.length = none := by
      cases hb : bst F s F.length with
      | none => rfl
      | some x => rw [hb] at q; exact absurd rfl q
    have hc := hb.2.2.mpr hn
    unfold bgL
    rw [if_neg q, hc]
    exact ⟨by rw [if_neg (by decide)]; rfl, fun t a h => by simp at h⟩
theorem m_jdgL {M : Mem} {L : List Nat} (hL : L.length ≤ 160) (hLb : ∀ k, k < L.length → ∃ a, L[k]? = some a ∧ a ≤ 160) (c2 : ∀ t a : Nat, L[t]? = some a → gi M 155 t = iz (a : Int)) {rw_ : List Nat} (hr : ∀ (i a : Nat), rw_[i]? = some a → gi M 168 i = iz (a : Int)) (h16 : rw_.length ≤ 16) (h99 : ∀ a ∈ rw_, a ≤ 99) : ∀ (d f k : Nat), rw_.length - k < d → d ≤ f → k ≤ rw_.length → lq1 (f_X9_judge_L28 (iz (rw_.length : Int)) M (iz (L.length : Int))) f (iz (k : Int)) = some (iz (jdg rw_ L d k), M) := by
  intro d
  induction d with
  | zero => intro f k h; omega
  | succ d ih =>
    intro f k e1 e2 e3
    obtain ⟨f, rfl⟩ : ∃ g, f = g + 1 := ⟨f - 1, by omega⟩
    rw [lq1_s]
    show _ = some (iz (if rw_.length ≤ k then (if L.length ≤ rw_.length then -9 else (rw_.length : Int)) else if L.length ≤ k then (k : Int) else if rw_[k]? = L[k]? then jdg rw_ L d (k + 1) else (k : Int)), M)
    by_cases q : rw_.length ≤ k
    · generalize lq1 (f_X9_judge_L28 (iz (rw_.length : Int)) M (iz (L.length : Int))) f = K
      unfold f_X9_judge_L28
      rw [if_pos (le_cnt q (by omega)), if_pos q]
      by_cases q2 : L.length ≤ rw_.length
      · rw [if_pos (le_cnt q2 (by omega)), if_pos q2]; rfl
      · rw [if_neg (nle_cnt (by omega) (by omega)), if_neg q2]
    · have ih' := ih f (k + 1) (by omega) (by omega) (by omega)
      generalize lq1 (f_X9_judge_L28 (iz (rw_.length : Int)) M (iz (L.length : Int))) f = K at ih' ⊢
      unfold f_X9_judge_L28
      rw [if_neg (nle_cnt (by omega) (by omega)), if_neg q]
      by_cases q2 : L.length ≤ k
      · rw [if_pos (le_cnt q2 (by omega)), if_pos q2]
      · obtain ⟨a, ha, ha9⟩ := row_lt h99 (k := k) (by omega)
        obtain ⟨b, hb, hb9⟩ := hLb k (by omega)
        rw [if_neg (nle_cnt (by omega) (by omega)), if_neg q2, g_t (inB_n (by omega) (by omega)), g_t (inB_n (by omega) (by omega)), clN (by omega), hr k a ha, c2 k b hb, ha, hb]
        by_cases q3 : a = b
        · rw [if_pos (by rw [q3]), if_pos (by rw [q3]), nmq_q, iz_s]; exact ih'
        · rw [if_neg (ne_cnt (fun e => q3 e.symm) (by omega) (by omega)), if_neg (fun e => q3 (Option.some.inj e))]
theorem op_judge {M : Mem} (hI : Inv M) : both M f_X8_judge f_X9_judge := by
  obtain ⟨now, img, st, ct, hist, ls, rw_, R, hg, hC, hM⟩ := hI
  have hv := hg.1.1
  have hk : okFs (frs now 0 now.1) := frs_okFs hv (fun q hq => hq) (Nat.le_refl _)
  have h16 := hg.2.2.2.2.2.2.2.1
  have h99 := hg.2.2.2.2.2.2.2.2
  -- the class
  obtain ⟨M1, r1, r2, -, -, r5⟩ := c_set (p := 1) (Or.inl rfl) hv hC.1 (g := 0) (by omega)
  rw [leftW_0] at r1 r2
  have k1 : keepC M M1 := keepC.of (r5.mono (fun a ha => by omega))
  have hC1 := hC.keep k1
  have j1 := c_jdgL hk r2 hC1.2.2.2.2.2.1.1 hC1.2.2.2.2.2.1.2 h16 h99 17 FU 0 (by omega) (by rw [FU_eq]; omega) (Nat.zero_le _)
  obtain ⟨M2, hM2⟩ : ∃ M2, M2 = si M1 0 8 (0 : Int32) := ⟨_, rfl⟩
  have hC2 : IC M2 now img st ct hist ls [] R := by
    rw [hM2]
    exact hC1.setRw (sameOn.si (by omega)) (by rw [gi_si, if_neg (by omega)]) ⟨by rw [gi_si, if_pos ⟨rfl, rfl⟩]; rfl, fun i a h => by simp at h⟩
  have sM : sameOn (fun k => 139 ≤ k) M M2 := by rw [hM2]; exact k1.hi.tr (sameOn.si (by omega))
  -- the reference
  have hMM := hM.same hg sM
  obtain ⟨M3, hM3⟩ : ∃ M3, M3 = si M2 139 52 (0 : Int32) := ⟨_, rfl⟩
  have hg' : okG now img st ct hist ls [] := ⟨hg.1, hg.2.1, hg.2.2.1, hg.2.2.2.1, hg.2.2.2.2.1, hg.2.2.2.2.2.1, hg.2.2.2.2.2.2.1, by simp, by simp⟩
  have hMr : IM M3 now img st ct hist ls [] R := by
    rw [hM3]
    exact hMM.setRw hg (sameOn.si (by omega)) (fun j hj => by rw [gi_si, if_neg (by omega)]) ⟨by rw [gi_si, if_pos ⟨rfl, rfl⟩]; rfl, fun i a h => by simp at h⟩
  obtain ⟨M4, f1, f2, f3, f4⟩ := m_find hv hMr.1
  have hM4 := hMr.keep hg' f4.keep
  have s23 : sameOn (fun k => k ≠ 139) M2 M3 := by rw [hM3]; exact sameOn.si (by omega)
  have s34 : gi M4 168 = gi M2 168 := by rw [(f4.1 168 (by omega)).1, (s23 168 (by omega)).1]
  obtain ⟨l1, l2⟩ := f2.L hk
  have j2 := m_jdgL (M := M4) (bgL_len hk (s := now.2.2.2)).1 (fun k h => bgs_lt hk h) l2 (rw_ := rw_) (fun i a h => by rw [s34]; exact hMM.2.2.2.2.2.1.2 i a h) h16 h99 17 FU 0 (by omega) (by rw [FU_eq]; omega) (Nat.zero_le _)
  refine ⟨iz (jdg rw_ (bgL (frs now 0 now.1) now.2.2.2) 17 0), M2, M4, ?_, ?_, now, img, st, ct, hist, ls, [], R, hg', (hC2.same (by rw [hM3]; exact sameOn.si (by omega))).same (f4.1.mono (fun k hk => by omega)), hM4⟩
  · unfold f_X8_judge
    have r1' : f_X6_set 1 (0 : Int32) M = _ := r1
    have j1' : f_X8_firstNotSo M1 = _ := j1
    rw [r1', b_s2, j1', b_s1, nmq_q, ← hM2]
  · unfold f_X9_judge
    have h52 : gi M2 139 52 = iz (rw_.length : Int) := hMM.2.2.2.2.2.1.1
    have j2' : lq1 (f_X9_judge_L28 (iz (rw_.length : Int)) M4 (iz ((bgL (frs now 0 now.1) now.2.2.2).length : Int))) FU (0 : Int32) = _ := j2
    rw [nmq_q, h52, nmq_q, ← hM3, f1, b_s2, nmq_q, l1]; exact j2'
/-! what kind it was -/
def asT (c : Int → Int) : List Nat → Nat → Bool
  | [], _ => true
  | a :: l, k => decide ((if c (20 + 4 * (k : Int)) = -9 then 0 else c (20 + 4 * (k : Int))) = (a : Int)) && asT c l (k + 1)
theorem c_asL {v : PV} (hv : okV v) {g : Nat → Int} (hgs : okS g) {F : List Fr} (hk : okFs F) {rw_ : List Nat} (h16 : rw_.length ≤ 16) (h99 : ∀ a ∈ rw_, a ≤ 99) : ∀ (rest : List Nat) (f k : Nat) (M : Mem) (z : Int), rw_.drop k = rest → rest.length < f → k + rest.length = rw_.length → gi M 0 8 = iz (rw_.length : Int) → (∀ (i a : Nat), rw_[i]? = some a → gi M 137 i = iz (a : Int)) → okS (up g 0 z) → cPar M 12 (setN v (up g 0 z)) → cFr M F →
    ∃ M' z', lq2 f_X8_isAsTold_L17 f (iz (k : Int)) M = some ((if asT (fun n => cntV F (up g 0 n)) rest k = true then (1 : Int32) else 0), M') ∧ okS (up g 0 z') ∧ cPar M' 12 (setN v (up g 0 z')) ∧ cFr M' F ∧ sameOn (fun a => a < 12 ∨ (23 ≤ a ∧ a < 126) ∨ 137 ≤ a) M M' := by
  have a137 : alen 137 = 16 := rfl
  intro rest
  induction rest with
  | nil =>
    intro f k M z e0 e1 e2 h8 hr hz hc hF
    simp only [List.length_nil] at e1 e2
    obtain ⟨f, rfl⟩ : ∃ g, f = g + 1 := ⟨f - 1, by omega⟩
    refine ⟨M, z, ?_, hz, hc, hF, sameOn.rf⟩
    rw [lq2_s]
    generalize lq2 f_X8_isAsTold_L17 f = K
    unfold f_X8_isAsTold_L17
    rw [h8, if_pos (le_cnt (by omega) (by omega))]; rfl
  | cons a rest ih =>
    intro f k M z e0 e1 e2 h8 hr hz hc hF
    rw [List.length_cons] at e1 e2
    obtain ⟨f, rfl⟩ : ∃ g, f = g + 1 := ⟨f - 1, by omega⟩
    obtain ⟨d1, d2⟩ := drop_step e0
    have ha9 := h99 a (List.mem_of_getElem? d1)
    have hs := okS_up0 hgs (z := 20 + 4 * (k : Int)) (by omega) (by omega)
    obtain ⟨M1, b1, b2, b3, -, b5⟩ := c_lw (v := v) (f := up g 0 z) (n := 20 + 4 * (k : Int)) hv hk (by rw [up_up]; exact hs) hc hF
    rw [up_up] at b1 b2
    have hb := cntV_b hk (s := up g 0 (20 + 4 * (k : Int)))
    have ew : (20 : Int32) + (4 : Int32) * iz (k : Int) = iz (20 + 4 * (k : Int)) := by rw [show (4 : Int32) = iz (4 : Int) from rfl, iz_mul, show (20 : Int32) = iz (20 : Int) from rfl, iz_add]
    have h137 : gi M1 137 k = iz (a : Int) := by rw [(b5 137 (by omega)).1]; exact hr k a d1
    have hif : (if iz (cntV F (up g 0 (20 + 4 * (k : Int)))) = (-9 : Int32) then ((0 : Int32)) else (iz (cntV F (up g 0 (20 + 4 * (k : Int)))))) = iz (if cntV F (up g 0 (20 + 4 * (k : Int))) = -9 then 0 else cntV F (up g 0 (20 + 4 * (k : Int)))) := by
      by_cases q : cntV F (up g 0 (20 + 4 * (k : Int))) = -9
      · rw [if_pos (show iz (cntV F (up g 0 (20 + 4 * (k : Int)))) = (-9 : Int32) by rw [q]; decide), if_pos q]; rfl
      · rw [if_neg (show ¬ iz (cntV F (up g 0 (20 + 4 * (k : Int)))) = (-9 : Int32) from neq_iz (b := -9) (by omega) (by omega) (by omega) (by omega) q), if_neg q]
    have hcb : 0 ≤ (if cntV F (up g 0 (20 + 4 * (k : Int))) = -9 then 0 else cntV F (up g 0 (20 + 4 * (k : Int)))) ∧ (if cntV F (up g 0 (20 + 4 * (k : Int))) = -9 then 0 else cntV F (up g 0 (20 + 4 * (k : Int)))) ≤ 160 := by split <;> omega
    have hstep : ∀ K, f_X8_isAsTold_L17 K (iz (k : Int)) M = (if iz (a : Int) = iz (if cntV F (up g 0 (20 + 4 * (k : Int))) = -9 then 0 else cntV F (up g 0 (20 + 4 * (k : Int)))) then K (iz ((k + 1 : Nat) : Int)) M1 else some ((0 : Int32), M1)) := fun K => by
      unfold f_X8_isAsTold_L17
      rw [h8, if_neg (nle_cnt (by omega) (by omega)), ew, b1, b_s2, c_at a137 (by omega) (by omega), b_s1, h137, nmq_q, hif, nmq_q, iz_s]
    have s1 : sameOn (fun a => a < 12 ∨ (23 ≤ a ∧ a < 126) ∨ 137 ≤ a) M M1 := b5.mono (fun a ha => by omega)
    rw [lq2_s, hstep]
    show ∃ M' z', _ = some ((if (decide ((if cntV F (up g 0 (20 + 4 * (k : Int))) = -9 then 0 else cntV F (up g 0 (20 + 4 * (k : Int)))) = (a : Int)) && asT (fun n => cntV F (up g 0 n)) rest (k + 1)) = true then (1 : Int32) else 0), M') ∧ _
    generalize (if cntV F (up g 0 (20 + 4 * (k : Int))) = -9 then 0 else cntV F (up g 0 (20 + 4 * (k : Int)))) = x at hcb ⊢
    by_cases q : x = (a : Int)
    · obtain ⟨M', z', r1, r0, r2, r3, r4⟩ := ih f (k + 1) M1 _ d2 (by omega) (by omega) (by rw [(b5 0 (by omega)).1]; exact h8) (fun i a h => by rw [(b5 137 (by omega)).1]; exact hr i a h) hs b2 b3
      refine ⟨M', z', ?_, r0, r2, r3, s1.tr r4⟩
      rw [if_pos (by rw [q]), decide_eq_true q, Bool.true_and]; exact r1
    · refine ⟨M1, _, ?_, hs, b2, b3, s1⟩
      rw [if_neg (neq_iz (by omega) (by omega) (by omega) (by omega) (fun e => q e.symm)), decide_eq_false q, Bool.false_and]; rfl
theorem m_asL {v : PV} (hv : okV v) {g : Nat → Int} (hgs : okS g) {rw_ : List Nat} (h16 : rw_.length ≤ 16) (h99 : ∀ a ∈ rw_, a ≤ 99) : ∀ (rest : List Nat) (f k : Nat) (M : Mem), rw_.drop k = rest → rest.length < f → k + rest.length = rw_.length → gi M 139 52 = iz (rw_.length : Int) → (∀ (i a : Nat), rw_[i]? = some a → gi M 168 i = iz (a : Int)) → mPar (rdNow M) (setN v g) →
    ∃ M', lq2 f_X9_areLinesSo_L2 f (iz (k : Int)) M = some ((if asT (fun n => cntV (frs (setN v g) 0 v.1) (up g 0 n)) rest k = true then (1 : Int32) else 0), M') ∧ keepM M M' := by
  have hk : okFs (frs (setN v g) 0 v.1) := frs_okFs (hv.setN hgs) (fun q hq => hq) (Nat.le_refl _)
  intro rest
  induction rest with
  | nil =>
    intro f k M e0 e1 e2 h8 hr hm
    simp only [List.length_nil] at e1 e2
    obtain ⟨f, rfl⟩ : ∃ g, f = g + 1 := ⟨f - 1, by omega⟩
    refine ⟨M, ?_, keepM.rf⟩
    rw [lq2_s]
    generalize lq2 f_X9_areLinesSo_L2 f = K
    unfold f_X9_areLinesSo_L2
    rw [h8, if_pos (le_cnt (by omega) (by omega))]; rfl
  | cons a rest ih =>
    intro f k M e0 e1 e2 h8 hr hm
    rw [List.length_cons] at e1 e2
    obtain ⟨f, rfl⟩ : ∃ g, f = g + 1 := ⟨f - 1, by omega⟩
    obtain ⟨d1, d2⟩ := drop_step e0
    have ha9 := h99 a (List.mem_of_getElem? d1)
    have hs := okS_up0 hgs (z := 20 + 4 * (k : Int)) (by omega) (by omega)
    obtain ⟨M1, b1, b2, b3, -, -⟩ := m_lw (v := v) (f := g) (n := 20 + 4 * (k : Int)) hv hgs hs hm
    have hb := cntV_b hk (s := up g 0 (20 + 4 * (k : Int)))
    have ew : (20 : Int32) + (4 : Int32) * iz (k : Int) = iz (20 + 4 * (k : Int)) := by rw [show (4 : Int32) = iz (4 : Int) from rfl, iz_mul, show (20 : Int32) = iz (20 : Int) from rfl, iz_add]
    have h168 : gi M1 168 k = iz (a : Int) := by rw [(b3.1 168 (by omega)).1]; exact hr k a d1
    have hif : (if (0 : Int32) ≤ iz (cntV (frs (setN v g) 0 v.1) (up g 0 (20 + 4 * (k : Int)))) then (iz (cntV (frs (setN v g) 0 v.1) (up g 0 (20 + 4 * (k : Int))))) else ((0 : Int32))) = iz (if cntV (frs (setN v g) 0 v.1) (up g 0 (20 + 4 * (k : Int))) = -9 then 0 else cntV (frs (setN v g) 0 v.1) (up g 0 (20 + 4 * (k : Int)))) := by
      by_cases q : cntV (frs (setN v g) 0 v.1) (up g 0 (20 + 4 * (k : Int))) = -9
      · rw [if_neg (show ¬ (0 : Int32) ≤ iz (cntV (frs (setN v g) 0 v.1) (up g 0 (20 + 4 * (k : Int)))) by rw [q]; decide), if_pos q]; rfl
      · rw [if_pos (show (0 : Int32) ≤ iz (cntV (frs (setN v g) 0 v.1) (up g 0 (20 + 4 * (k : Int)))) from le_iz (a := 0) (by omega) (by omega) (by omega) (by omega) (by omega)), if_neg q]
    have hcb : 0 ≤ (if cntV (frs (setN v g) 0 v.1) (up g 0 (20 + 4 * (k : Int))) = -9 then 0 else cntV (frs (setN v g) 0 v.1) (up g 0 (20 + 4 * (k : Int)))) ∧ (if cntV (frs (setN v g) 0 v.1) (up g 0 (20 + 4 * (k : Int))) = -9 then 0 else cntV (frs (setN v g) 0 v.1) (up g 0 (20 + 4 * (k : Int)))) ≤ 160 := by split <;> omega
    have hstep : ∀ K, f_X9_areLinesSo_L2 K (iz (k : Int)) M = (if iz (if cntV (frs (setN v g) 0 v.1) (up g 0 (20 + 4 * (k : Int))) = -9 then 0 else cntV (frs (setN v g) 0 v.1) (up g 0 (20 + 4 * (k : Int)))) = iz (a : Int) then K (iz ((k + 1 : Nat) : Int)) M1 else some ((0 : Int32), M1)) := fun K => by
      unfold f_X9_areLinesSo_L2
      rw [h8, if_neg (nle_cnt (by omega) (by omega)), ew, b1, b_s2, nmq_q, hif, g_t (inB_n (by omega) (by omega)), clN (by omega), h168, nmq_q, iz_s]
    rw [lq2_s, hstep]
    show ∃ M', _ = some ((if (decide ((if cntV (frs (setN v g) 0 v.1) (up g 0 (20 + 4 * (k : Int))) = -9 then 0 else cntV (frs (setN v g) 0 v.1) (up g 0 (20 + 4 * (k : Int)))) = (a : Int)) && asT (fun n => cntV (frs (setN v g) 0 v.1) (up g 0 n)) rest (k + 1)) = true then (1 : Int32) else 0), M') ∧ _
    generalize (if cntV (frs (setN v g) 0 v.1) (up g 0 (20 + 4 * (k : Int))) = -9 then 0 else cntV (frs (setN v g) 0 v.1) (up g 0 (20 + 4 * (k : Int)))) = x at hcb ⊢
    by_cases q : x = (a : Int)
    · obtain ⟨M', r1, r4⟩ := ih f (k + 1) M1 d2 (by omega) (by omega) (by rw [b3.2.1 52 (by omega)]; exact h8) (fun i a h => by rw [(b3.1 168 (by omega)).1]; exact hr i a h) b2
      refine ⟨M', ?_, b3.tr r4⟩
      rw [if_pos (by rw [q]), decide_eq_true q, Bool.true_and]; exact r1
    · refine ⟨M1, ?_, b3⟩
      rw [if_neg (neq_iz (by omega) (by omega) (by omega) (by omega) q), decide_eq_false q, Bool.false_and]; rfl
