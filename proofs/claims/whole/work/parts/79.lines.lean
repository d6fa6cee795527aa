/-! asked for lines: the class's set and trial, the reference's lines with -/
theorem keepC.of {M M' : Mem} (h : sameOn (fun a => a < 12 ∨ (23 ≤ a ∧ a < 126) ∨ 137 ≤ a) M M') : keepC M M' := ⟨h.mono (fun a ha => by omega), by rw [(h 0 (by omega)).1], by rw [(h 0 (by omega)).1], by rw [(h 124 (by omega)).1]⟩
theorem keepM.par {M M' : Mem} {v : PV} (h : keepM M M') (hv : okV v) (hm : mPar (rdNow M) v) : mPar (rdNow M') v := hm.congr hv (rdNow.congr (h.1.mono (fun a ha => by omega)) (fun j q1 q2 => h.2.1 j (Or.inl ⟨q1, q2⟩)))
theorem c_set {p : Nat} (hp : p = 1 ∨ p = 12) {v : PV} (hv : okV v) {M : Mem} (hc : cPar M p v) {g : Nat} (hg : g < 65536) : ∃ M', f_X6_set p (iz (g : Int)) M = some (iz (cntV (frs v 0 (leftW g 0 v.1)) v.2.2.2), M') ∧ cSol M' (frs v 0 (leftW g 0 v.1)) v.2.2.2 ∧ cFr M' (frs v 0 (leftW g 0 v.1)) ∧ cMs M' v.2.2.2 ∧ sameOn (fun a => a < 126 ∨ a = 134 ∨ a = 135 ∨ 137 ≤ a) M M' := by
  obtain ⟨M1, r1, r2, r3⟩ := c_cut hp hv hc hg
  obtain ⟨M2, q1, q2, q3, q4⟩ := c_solve hp hv (par_cut hp hc r3) (frs_okFs hv (fun q hq => leftW_mem _ _ q hq) (leftW_len _ _)) r2
  refine ⟨M2, ?_, q2, r2.same (q4.mono (fun a ha => by omega)), q3, (r3.mono (fun a ha => by omega)).tr (q4.mono (fun a ha => by omega))⟩
  unfold f_X6_set
  rw [r1, b_s1, q1, b_s2]
/-- where a line ends -/
def nxt (L : List Nat) (n i : Nat) : Nat := (L[i + 1]?).getD n
theorem bgs_ok {F : List Fr} {s : Nat → Int} (h : (bst F s F.length).isSome = true) {k a : Nat} (hk : (bgs F s F.length)[k]? = some a) : a < nxt (bgs F s F.length) F.length k ∧ nxt (bgs F s F.length) F.length k ≤ F.length ∧ okB F s a (nxt (bgs F s F.length) F.length k) = true := chn_ok F.length F.length (Nat.le_refl _) h k a hk
theorem c_showL {F : List Fr} (hk : okFs F) {s : Nat → Int} (hs : okS s) {i b : Nat} (hb : b ≤ F.length) : ∀ (d f j : Nat) (M : Mem), j + d = b → i ≤ j → d < f → cFr M F → cMs M s → cLn M F s i j → ∃ M', lq2 (f_X6_show_L54 (iz (b : Int))) f (iz (j : Int)) M = some M' ∧ cLn M' F s i b ∧ cMs M' s ∧ sameOn (fun k => k ≠ 127) M M' := by
  have hl := hk.1
  intro d
  induction d with
  | zero =>
    intro f j M e1 e2 e3 hF hm hL
    obtain ⟨f, rfl⟩ : ∃ g, f = g + 1 := ⟨f - 1, by omega⟩
    refine ⟨M, ?_, by rw [show b = j by omega]; exact hL, hm, sameOn.rf⟩
    rw [lq2_s]
    generalize lq2 (f_X6_show_L54 (iz (b : Int))) f = K
    unfold f_X6_show_L54
    rw [if_pos (le_cnt (by omega) (by omega))]
  | succ d ih =>
    intro f j M e1 e2 e3 hF hm hL
    obtain ⟨f, rfl⟩ : ∃ g, f = g + 1 := ⟨f - 1, by omega⟩
    obtain ⟨M1, g1, g2, g3, g4⟩ := c_grow hs hk hF hm e2 (by omega) hL
    obtain ⟨M', r1, r2, r3, r4⟩ := ih f (j + 1) M1 (by omega) (by omega) (by omega) (hF.same (g4.mono (fun a ha => by omega))) g3 g2
    refine ⟨M', ?_, r2, r3, g4.tr r4⟩
    rw [lq2_s]
    generalize lq2 (f_X6_show_L54 (iz (b : Int))) f = K at r1 ⊢
    unfold f_X6_show_L54
    rw [if_neg (nle_cnt (by omega) (by omega)), g1, b_s1, nmq_q, iz_s]; exact r1
theorem c_show {F : List Fr} (hk : okFs F) {s : Nat → Int} (hs : okS s) {M : Mem} (hF : cFr M F) (hm : cMs M s) (hS : cSol M F s) (hsome : (bst F s F.length).isSome = true) {i a : Nat} (hi : (bgs F s F.length)[i]? = some a) : ∃ M', f_X6_show (iz (i : Int)) M = some M' ∧ cLn M' F s a (nxt (bgs F s F.length) F.length i) ∧ cMs M' s ∧ sameOn (fun k => k ≠ 127) M M' := by
  have hl := hk.1
  have a132 : alen 132 = 192 := rfl
  have hil : i < (bgs F s F.length).length := (List.getElem?_eq_some_iff.mp hi).1
  have hbl := bgs_len (F := F) (s := s) F.length F.length (Nat.le_refl _) hsome
  obtain ⟨o1, o2, o3⟩ := bgs_ok hsome hi
  obtain ⟨s1, s2, s3⟩ := hS
  rw [if_pos hsome] at s2
  have s3 := s3 hsome
  obtain ⟨M5, b1, b2, b3, b4⟩ := c_begin (i := a) hF hm hl (by omega)
  obtain ⟨M', r1, r2, r3, r4⟩ := c_showL hk hs o2 (nxt (bgs F s F.length) F.length i - a) FU a M5 (by omega) (by omega) (by rw [FU_eq]; omega) (hF.same (b4.mono (fun k hk => by omega))) b3 b2
  refine ⟨M', ?_, r2, r3, b4.tr r4⟩
  have e1 : (if (gi M 126 3) ≤ (iz (i : Int) + (1 : Int32)) then (some ((gi M 128 3))) else (bq1 (f_X8_at 132 (iz (i : Int) + (1 : Int32)) M) (fun (x21 : Int32) => (some (x21))))) = some (iz (nxt (bgs F s F.length) F.length i : Int)) := by
    rw [s2, iz_s]
    unfold nxt
    by_cases q : i + 1 < (bgs F s F.length).length
    · rw [if_neg (nle_cnt q (by omega)), c_at a132 (by omega) (by omega), b_s1, List.getElem?_eq_getElem q, s3 (i + 1) _ (List.getElem?_eq_getElem q)]; rfl
    · rw [if_pos (le_cnt (by omega) (by omega)), List.getElem?_eq_none (by omega), hF.1]; rfl
  unfold f_X6_show
  rw [e1, b_s1, c_at a132 (by omega) (by omega), b_s1, s3 i a hi, b1, b_s1, nmq_q, b2.1, r1, b_s1]
/-! with other numbers -/
theorem up_up (f : Nat → Int) (i : Nat) (x y : Int) : up (up f i x) i y = up f i y := by
  funext j
  show (if j = i then y else (if j = i then x else f j)) = (if j = i then y else f j)
  by_cases q : j = i
  · rw [if_pos q, if_pos q]
  · rw [if_neg q, if_neg q, if_neg q]
theorem up_same (f : Nat → Int) (i : Nat) : up f i (f i) = f := by
  funext j
  show (if j = i then f i else f j) = f j
  by_cases q : j = i
  · rw [if_pos q, q]
  · rw [if_neg q]
theorem up_comm (f : Nat → Int) {i j : Nat} (h : i ≠ j) (x y : Int) : up (up f i x) j y = up (up f j y) i x := by
  funext k
  show (if k = j then y else (if k = i then x else f k)) = (if k = i then x else (if k = j then y else f k))
  by_cases q : k = j
  · rw [if_pos q, if_neg (by omega), if_pos q]
  · rw [if_neg q, if_neg q]
theorem setN_setN (v : PV) (f g : Nat → Int) : setN (setN v f) g = setN v g := rfl
theorem frs_congr {v v' : PV} (h1 : v'.2.1 = v.2.1) (h2 : v'.2.2.1 = v.2.2.1) (h8 : v'.2.2.2 8 = v.2.2.2 8) (h9 : v'.2.2.2 9 = v.2.2.2 9) : ∀ (l : List Word) (n : Nat), frs v' n l = frs v n l
  | [], _ => rfl
  | q :: l, n => by
    have hb : brk v' q.1 = brk v q.1 := by
      funext p
      unfold brk
      rw [h1, h8, h9]
    show pieces v'.2.2.1 (brk v' q.1) n (endW q l) q.1 0 0 ++ frs v' (n + 1) l = pieces v.2.2.1 (brk v q.1) n (endW q l) q.1 0 0 ++ frs v (n + 1) l
    rw [h2, hb, frs_congr h1 h2 h8 h9 l (n + 1)]
theorem c_trial {v : PV} (hv : okV v) {M : Mem} (hc : cPar M 1 v) : ∃ M', f_X8_beginTrial M = some M' ∧ cPar M' 12 v ∧ cFr M' (frs v 0 v.1) ∧ sameOn (fun a => a < 12 ∨ (23 ≤ a ∧ a < 128) ∨ 132 ≤ a) M M' := by
  obtain ⟨M1, e1, p1, s1⟩ := c_become (p := 12) (q := 1) (M := M) (v := v) (by decide) (by decide) (by omega) hc hv
  obtain ⟨M2, e2, p2, s2⟩ := c_cut (p := 12) (Or.inr rfl) hv p1 (g := 0) (by omega)
  rw [leftW_0] at p2
  refine ⟨M2, ?_, par_cut (Or.inr rfl) p1 s2, p2, (s1.mono (fun a ha => by omega)).tr (s2.mono (fun a ha => by omega))⟩
  unfold f_X8_beginTrial
  have e2' : f_X0_cut 12 (0 : Int32) M1 = some M2 := e2
  rw [e1, b_s1, e2', b_s1]
theorem okV.setN {v : PV} (hv : okV v) {f : Nat → Int} (hf : okS f) : okV (setN v f) := ⟨hv.1, hv.2.1, hv.2.2.1, hv.2.2.2.1, hv.2.2.2.2.1, hf⟩
theorem c_lw {v : PV} (hv : okV v) {f : Nat → Int} {F : List Fr} (hk : okFs F) {n : Int} (hf : okS (up f 0 n)) {M : Mem} (hc : cPar M 12 (setN v f)) (hF : cFr M F) : ∃ M', f_X8_linesWith (iz n) M = some (iz (cntV F (up f 0 n)), M') ∧ cPar M' 12 (setN v (up f 0 n)) ∧ cFr M' F ∧ cSol M' F (up f 0 n) ∧ sameOn (fun a => a < 12 ∨ (23 ≤ a ∧ a < 126) ∨ a = 134 ∨ a = 135 ∨ 137 ≤ a) M M' := by
  have hc1 := hc.num (i := 0) (z := n)
  have hc1 : cPar (si M 12 3 (iz n)) 12 (setN v (up f 0 n)) := hc1
  have hF1 : cFr (si M 12 3 (iz n)) F := hF.same (sameOn.si (by omega))
  obtain ⟨M', r1, r2, r3, r4⟩ := c_solve (Or.inr rfl) (hv.setN hf) hc1 hk hF1
  refine ⟨M', ?_, hc1.same (r4.mono (fun a ha => by omega)), hF1.same (r4.mono (fun a ha => by omega)), r2, (sameOn.si (by omega)).tr (r4.mono (fun a ha => by omega))⟩
  unfold f_X8_linesWith
  rw [nmq_q, r1, b_s2]; rfl
theorem m_lw {v : PV} (hv : okV v) {f : Nat → Int} (hf0 : okS f) {n : Int} (hf : okS (up f 0 n)) {M : Mem} (hm : mPar (rdNow M) (setN v f)) : ∃ M', f_X9_linesWith (iz n) M = some (iz (cntV (frs (setN v f) 0 v.1) (up f 0 n)), M') ∧ mPar (rdNow M') (setN v f) ∧ keepM M M' ∧ mSol M' (frs (setN v f) 0 v.1) (up f 0 n) ∧ mFr M' (frs (setN v f) 0 v.1) := by
  have hm1 := hm.num (hv.setN hf0) (i := 0) (z := n) (by omega)
  have hm1 : mPar (rdNow (si M 139 11 (iz n))) (setN v (up f 0 n)) := hm1
  obtain ⟨M4, r1, r2, r3, r4⟩ := m_find (hv.setN hf) hm1
  have eF : frs (setN v (up f 0 n)) 0 v.1 = frs (setN v f) 0 v.1 := frs_congr (v := setN v f) (v' := setN v (up f 0 n)) rfl rfl rfl rfl v.1 0
  have r1 : f_X9_findLines (si M 139 11 (iz n)) = some (iz (cntV (frs (setN v (up f 0 n)) 0 v.1) (up f 0 n)), M4) := r1
  have r2 : mSol M4 (frs (setN v (up f 0 n)) 0 v.1) (up f 0 n) := r2
  have r3 : mFr M4 (frs (setN v (up f 0 n)) 0 v.1) := r3
  rw [eF] at r1 r2 r3
  have h11 : gi M 139 11 = iz (f 0) := hm.at' (i := 0) (by omega)
  have kk : keepM M (si M4 139 11 (gi M 139 11)) := by
    refine ⟨((sameOn.si (by omega)).tr (r4.1.mono (fun a ha => by omega))).tr (sameOn.si (by omega)), fun j hj => ?_, fun x _ => ?_⟩
    · rw [gi_si]
      by_cases q : j = 11
      · rw [if_pos ⟨rfl, q⟩, q]
      · rw [if_neg (by omega), r4.2 j (by omega) (by omega), gi_si, if_neg (by omega)]
    · rw [gi_si, if_neg (by omega), (r4.1 163 (by omega)).1, gi_si, if_neg (by omega)]
  refine ⟨si M4 139 11 (gi M 139 11), ?_, kk.par (hv.setN hf0) hm, kk, ?_, ?_⟩
  · unfold f_X9_linesWith
    rw [nmq_q, nmq_q, r1, b_s2, nmq_q]
  · refine ⟨by rw [gi_si, if_neg (by omega)]; exact r2.1, fun h => ?_⟩
    obtain ⟨a1, a2, a3⟩ := r2.2 h
    exact ⟨a1, by rw [gi_si, if_neg (by omega)]; exact a2, fun t a ht => by rw [gi_si, if_neg (by omega)]; exact a3 t a ht⟩
  · exact r3.same (sameOn.si (by omega)) (by rw [gi_si, if_neg (by omega)])
theorem cntV_b {F : List Fr} (h : okFs F) {s : Nat → Int} : (cntV F s = -9 ∨ 0 ≤ cntV F s) ∧ cntV F s ≤ 160 ∧ (cntV F s = -9 ↔ bst F s F.length = none) := by
  have hl := h.1
  unfold cntV
  cases hb : bst F s F.length with
  | none => exact ⟨Or.inl rfl, by show (-9 : Int) ≤ 160; omega, fun _ => rfl, fun _ => rfl⟩
  | some x =>
    have := bgs_len (F := F) (s := s) F.length F.length (Nat.le_refl _) (by rw [hb]; rfl)
    refine ⟨Or.inr ?_, ?_, ?_, fun e => by cases e⟩
    · show 0 ≤ ((bgs F s F.length).length : Int); omega
    · show ((bgs F s F.length).length : Int) ≤ 160; omega
    · intro e
      have e : ((bgs F s F.length).length : Int) = -9 := e
      omega
