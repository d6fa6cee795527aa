/-! the class solves -/
theorem c_fillL {k : Nat} (ha : alen k = 193) (v : UInt32) : ∀ (d f i : Nat) (M : Mem), i + d = 193 → d < f → ∃ M', lq2 (f_J7_fill_e525d_L5 k v (Int32.ofNat 193)) f (iz (i : Int)) M = some M' ∧ (∀ j, gf M' k j = if i ≤ j ∧ j < 193 then v else gf M k j) ∧ sameOn (fun a => a ≠ k) M M' := by
  intro d
  induction d with
  | zero =>
    intro f i M e1 e2
    obtain ⟨f, rfl⟩ : ∃ g, f = g + 1 := ⟨f - 1, by omega⟩
    refine ⟨M, ?_, fun j => by rw [if_neg (by omega)], sameOn.rf⟩
    rw [lq2_s]
    generalize lq2 (f_J7_fill_e525d_L5 k v (Int32.ofNat 193)) f = K
    unfold f_J7_fill_e525d_L5
    rw [iz_nat, if_pos (le_cnt (by omega) (by omega))]
  | succ d ih =>
    intro f i M e1 e2
    obtain ⟨f, rfl⟩ : ∃ g, f = g + 1 := ⟨f - 1, by omega⟩
    obtain ⟨M', r1, r2, r3⟩ := ih f (i + 1) (sf M k i v) (by omega) (by omega)
    refine ⟨M', ?_, fun j => ?_, (sameOn.sf (by omega)).tr r3⟩
    · rw [lq2_s]
      generalize lq2 (f_J7_fill_e525d_L5 k v (Int32.ofNat 193)) f = K at r1 ⊢
      unfold f_J7_fill_e525d_L5
      rw [iz_nat, if_neg (nle_cnt (by omega) (by omega)), ha, g_t (inB_n (by omega) (by omega)), nmq_q, nmq_q, clN (by omega), iz_s]; exact r1
    · rw [r2 j]
      by_cases q : i + 1 ≤ j ∧ j < 193
      · rw [if_pos q, if_pos (by omega)]
      · rw [if_neg q, gf_sf']
        by_cases q2 : j = i
        · rw [if_pos ⟨rfl, q2⟩, if_pos (by omega)]
        · rw [if_neg (by omega), if_neg (by omega)]
theorem c_fill {k : Nat} (ha : alen k = 193) (v : UInt32) (M : Mem) : ∃ M', f_J7_fill_e525d k v M = some M' ∧ (∀ j, j < 193 → gf M' k j = v) ∧ sameOn (fun a => a ≠ k) M M' := by
  obtain ⟨M', r1, r2, r3⟩ := c_fillL ha v 193 FU 0 M (by omega) (by rw [FU_eq]; omega)
  refine ⟨M', ?_, fun j hj => by rw [r2 j, if_pos (by omega)], r3⟩
  unfold f_J7_fill_e525d
  rw [nmq_q, ha]
  have r1' : lq2 (f_J7_fill_e525d_L5 k v (Int32.ofNat 193)) FU (0 : Int32) M = some M' := r1
  rw [r1', b_s1]
def P0 : Tb := fun j => if j = 0 then some (FP.fconst0, 0) else none
theorem c_beginB {k : Nat} (ha : alen k = 193) (M : Mem) (n : Nat) (hn : n ≤ 160) : ∃ M', f_X6_beginBests k M = some M' ∧ cT M' k n P0 ∧ sameOn (fun a => a ≠ k) M M' := by
  obtain ⟨M1, r1, r2, r3⟩ := c_fill ha (3212836864 : UInt32) M
  refine ⟨sf M1 k 0 FP.fconst0, ?_, fun j hj => ?_, r3.tr (sameOn.sf (by omega))⟩
  · unfold f_X6_beginBests
    rw [r1, b_s1, ha, if_neg (show ¬ Int32.ofNat 193 ≤ 0 by decide), g_t (show inB (0 : Int32) 193 from inB_n (i := 0) (by omega) (by omega)), nmq_q]; rfl
  · rw [gf_sf']
    unfold P0
    by_cases q : j = 0
    · rw [if_pos ⟨rfl, q⟩, if_pos q]; rfl
    · rw [if_neg (by omega), if_neg q, r2 j (by omega)]; rfl
theorem P0_ok {F : List Fr} : okT F P0 := by
  intro j x hj hx
  unfold P0 at hx
  by_cases q : j = 0
  · rw [if_pos q] at hx; cases hx; exact tot_0 q
  · rw [if_neg q] at hx; cases hx
/-- what stands when the sources below i are through -/
def Pi (F : List Fr) (s : Nat → Int) (i : Nat) : Tb := fun j => if j = 0 then some (FP.fconst0, 0) else asc (cnd F s (bst F s) j) (min i j)
theorem Pi_0 {F : List Fr} {s : Nat → Int} (j : Nat) : Pi F s 0 j = P0 j := by
  unfold Pi P0
  by_cases q : j = 0
  · rw [if_pos q, if_pos q]
  · rw [if_neg q, if_neg q, Nat.zero_min]; rfl
theorem Pi_bst {F : List Fr} {s : Nat → Int} {i j : Nat} (h : j ≤ i) : Pi F s i j = bst F s j := by
  unfold Pi
  by_cases q : j = 0
  · rw [if_pos q, q, bst_0]
  · obtain ⟨t, rfl⟩ : ∃ t, j = t + 1 := ⟨j - 1, by omega⟩
    rw [if_neg q, Nat.min_eq_right h, bst_s]
theorem Pi_s {F : List Fr} {s : Nat → Int} (i j : Nat) : rchT F s (bst F s) i (Pi F s i) j = Pi F s (i + 1) j := by
  unfold rchT
  by_cases q : i < j
  · rw [if_pos q]
    unfold Pi
    rw [if_neg (by omega), if_neg (by omega), Nat.min_eq_left (show i ≤ j by omega), Nat.min_eq_left (show i + 1 ≤ j by omega)]; rfl
  · rw [if_neg q, Pi_bst (by omega), Pi_bst (by omega)]
theorem Pi_ok {F : List Fr} (h : okFs F) {s : Nat → Int} (hs : okS s) : ∀ i, i ≤ F.length → okT F (Pi F s i)
  | 0, _ => fun j x hj hx => by rw [Pi_0] at hx; exact P0_ok j x hj hx
  | i + 1, hi => fun j x hj hx => by
    rw [← Pi_s] at hx
    exact rchT_ok h hs (fun j x hj hx => bst_ok h hs j j (by omega) hj x hx) (Pi_ok h hs i (by omega)) (by omega) j x hj hx
theorem c_solveL {F : List Fr} (hk : okFs F) {s : Nat → Int} (hs : okS s) : ∀ (d f i : Nat) (M : Mem), i + d = F.length → d < f → cFr M F → cMs M s → cT M 133 F.length (Pi F s i) → cU M F.length (Pi F s i) →
    ∃ M', lq2 f_X6_solve_L17 f (iz (i : Int)) M = some M' ∧ cT M' 133 F.length (bst F s) ∧ cU M' F.length (bst F s) ∧ cMs M' s ∧ sameOn (fun a => a ≠ 133 ∧ a ≠ 136 ∧ a ≠ 127) M M' := by
  have hl := hk.1
  have a133 : alen 133 = 193 := rfl
  intro d
  induction d with
  | zero =>
    intro f i M e1 e2 hF hm hT hU
    obtain ⟨f, rfl⟩ : ∃ g, f = g + 1 := ⟨f - 1, by omega⟩
    refine ⟨M, ?_, fun j hj => ?_, fun j h1 h2 x hx => ?_, hm, sameOn.rf⟩
    · rw [lq2_s]
      generalize lq2 f_X6_solve_L17 f = K
      unfold f_X6_solve_L17
      rw [hF.1, if_pos (le_cnt (by omega) (by omega))]
    · rw [← Pi_bst (i := i) (by omega)]; exact hT j hj
    · rw [← Pi_bst (i := i) (by omega)] at hx; exact hU j h1 h2 x hx
  | succ d ih =>
    intro f i M e1 e2 hF hm hT hU
    obtain ⟨f, rfl⟩ : ∃ g, f = g + 1 := ⟨f - 1, by omega⟩
    have hT0 : gf M 133 i = oV (bst F s i) := by rw [← Pi_bst (i := i) (j := i) (by omega)]; exact hT i (by omega)
    obtain ⟨M1, r1, r2, r3, r4, r5⟩ := c_reach hk hs a133 a133 ⟨by omega, by omega, by omega⟩ (i := i) (by omega) (H := bst F s) (fun j x hj hx => bst_ok hk hs j j (by omega) hj x hx) (Pi_ok hk hs i (by omega)) hF hm hT0 hT hU
    have hF1 : cFr M1 F := hF.same (r5.mono (fun a ha => by omega))
    obtain ⟨M', q1, q2, q3, q4, q5⟩ := ih f (i + 1) M1 (by omega) (by omega) hF1 r4 (fun j hj => by rw [← Pi_s]; exact r2 j hj) (fun j h1 h2 x hx => by rw [← Pi_s] at hx; exact r3 j h1 h2 x hx)
    refine ⟨M', ?_, q2, q3, q4, r5.tr q5⟩
    rw [lq2_s]
    generalize lq2 f_X6_solve_L17 f = K at q1 ⊢
    unfold f_X6_solve_L17
    rw [hF.1, if_neg (nle_cnt (by omega) (by omega)), r1, b_s1, nmq_q, iz_s]; exact q1
/-! back along the chain -/
theorem chn_fuel {F : List Fr} {s : Nat → Int} : ∀ f j, j ≤ f → chn (bst F s) f j = chn (bst F s) j j
  | 0, j, h => by rw [show j = 0 by omega]
  | f + 1, j, h => by
    by_cases q : j = 0
    · rw [q, chn_0, chn_0]
    · obtain ⟨t, rfl⟩ : ∃ t, j = t + 1 := ⟨j - 1, by omega⟩
      cases hb : bst F s (t + 1) with
      | none =>
        show (if t + 1 = 0 then [] else match bst F s (t + 1) with | none => [] | some x => chn (bst F s) f x.2 ++ [x.2]) = (if t + 1 = 0 then [] else match bst F s (t + 1) with | none => [] | some x => chn (bst F s) t x.2 ++ [x.2])
        rw [hb]
      | some x =>
        have hx := (bst_some (by omega) hb).1
        rw [chn_s q hb, chn_s q hb, chn_fuel f x.2 (by omega), chn_fuel t x.2 (by omega)]
/-- the lines' begins, of break j -/
def bgs (F : List Fr) (s : Nat → Int) (j : Nat) : List Nat := chn (bst F s) j j
theorem bgs_0 {F : List Fr} {s : Nat → Int} : bgs F s 0 = [] := rfl
theorem bgs_s {F : List Fr} {s : Nat → Int} {j : Nat} (hj : j ≠ 0) {x : UInt32 × Nat} (h : bst F s j = some x) : bgs F s j = bgs F s x.2 ++ [x.2] := by
  obtain ⟨t, rfl⟩ : ∃ t, j = t + 1 := ⟨j - 1, by omega⟩
  have hx := (bst_some (by omega) h).1
  unfold bgs
  rw [chn_s hj h, chn_fuel t x.2 (by omega)]
theorem bgs_len {F : List Fr} {s : Nat → Int} : ∀ n j, j ≤ n → (bst F s j).isSome → (bgs F s j).length ≤ j
  | 0, j, h, _ => by rw [show j = 0 by omega]; exact Nat.le_refl _
  | n + 1, j, h, hs => by
    by_cases q : j = 0
    · rw [q]; exact Nat.le_refl _
    · obtain ⟨x, hx⟩ := Option.isSome_iff_exists.mp hs
      obtain ⟨a1, a2, b, a3, a4⟩ := bst_some (by omega) hx
      have := bgs_len n x.2 (by omega) (by rw [a3]; rfl)
      rw [bgs_s q hx, List.length_append]
      show _ + 1 ≤ j
      omega
theorem c_tr1 {F : List Fr} (hk : okFs F) {s : Nat → Int} : ∀ (n j f c : Nat) (M : Mem), j ≤ n → j ≤ F.length → (bst F s j).isSome → j < f → c + j ≤ 160 → gi M 126 3 = iz (c : Int) → cU M F.length (bst F s) →
    ∃ M', lq2 f_X6_traceBack_L8 f (iz (j : Int)) M = some M' ∧ gi M' 126 3 = iz ((c + (bgs F s j).length : Nat) : Int) ∧ sameOn (fun a => a ≠ 126) M M' := by
  have hl := hk.1
  have a136 : alen 136 = 193 := rfl
  intro n
  induction n with
  | zero =>
    intro j f c M h1 h2 h3 h4 h5 h6 hU
    obtain ⟨f, rfl⟩ : ∃ g, f = g + 1 := ⟨f - 1, by omega⟩
    have hj : j = 0 := by omega
    refine ⟨M, ?_, by rw [hj, bgs_0]; exact h6, sameOn.rf⟩
    rw [lq2_s]
    generalize lq2 f_X6_traceBack_L8 f = K
    unfold f_X6_traceBack_L8
    rw [h6, if_neg (show ¬ (192 : Int32) ≤ iz (c : Int) from nle_cnt (n := 192) (by omega) (by omega)), if_pos (by rw [hj]; decide)]
  | succ n ih =>
    intro j f c M h1 h2 h3 h4 h5 h6 hU
    obtain ⟨f, rfl⟩ : ∃ g, f = g + 1 := ⟨f - 1, by omega⟩
    by_cases q : j = 0
    · refine ⟨M, ?_, by rw [q, bgs_0]; exact h6, sameOn.rf⟩
      rw [lq2_s]
      generalize lq2 f_X6_traceBack_L8 f = K
      unfold f_X6_traceBack_L8
      rw [h6, if_neg (show ¬ (192 : Int32) ≤ iz (c : Int) from nle_cnt (n := 192) (by omega) (by omega)), if_pos (by rw [q]; decide)]
    · obtain ⟨x, hx⟩ := Option.isSome_iff_exists.mp h3
      obtain ⟨b1, b2, b, b3, b4⟩ := bst_some (by omega) hx
      have hfrom := hU j (by omega) h2 x hx
      obtain ⟨M', r1, r2, r3⟩ := ih x.2 f (c + 1) (si M 126 3 (iz ((c + 1 : Nat) : Int))) (by omega) (by omega) (by rw [b3]; rfl) (by omega) (by omega) (by rw [gi_si, if_pos ⟨rfl, rfl⟩]) (fun t u1 u2 y hy => by rw [gi_si, if_neg (by omega)]; exact hU t u1 u2 y hy)
      refine ⟨M', ?_, ?_, (sameOn.si (by omega)).tr r3⟩
      · rw [lq2_s]
        generalize lq2 f_X6_traceBack_L8 f = K at r1 ⊢
        unfold f_X6_traceBack_L8
        rw [h6, if_neg (show ¬ (192 : Int32) ≤ iz (c : Int) from nle_cnt (n := 192) (by omega) (by omega)), if_neg (fun e => by have := (pos_iz (by omega) (by omega)).mp e; omega), c_at a136 (by omega) (by omega), b_s1, hfrom, nmq_q, iz_s]; exact r1
      · rw [r2, bgs_s q hx, List.length_append]; congr 2
        show c + 1 + (bgs F s x.2).length = c + ((bgs F s x.2).length + 1)
        omega
theorem c_tr2 {F : List Fr} (hk : okFs F) {s : Nat → Int} : ∀ (n j f : Nat) (M : Mem), j ≤ n → j ≤ F.length → (bst F s j).isSome → j < f → cU M F.length (bst F s) →
    ∃ M', lq3 f_X6_traceBack_L59 f (iz (j : Int)) (iz (((bgs F s j).length : Int) - 1)) M = some M' ∧ (∀ t a : Nat, (bgs F s j)[t]? = some a → gi M' 132 t = iz (a : Int)) ∧ (∀ t, (bgs F s j).length ≤ t → gi M' 132 t = gi M 132 t) ∧ sameOn (fun a => a ≠ 132) M M' := by
  have hl := hk.1
  have a136 : alen 136 = 193 := rfl
  have a132 : alen 132 = 192 := rfl
  intro n
  induction n with
  | zero =>
    intro j f M h1 h2 h3 h4 hU
    obtain ⟨f, rfl⟩ : ∃ g, f = g + 1 := ⟨f - 1, by omega⟩
    have hj : j = 0 := by omega
    refine ⟨M, ?_, fun t a h => by rw [hj, bgs_0] at h; simp at h, fun _ _ => rfl, sameOn.rf⟩
    rw [lq3_s]
    generalize lq3 f_X6_traceBack_L59 f = K
    unfold f_X6_traceBack_L59
    rw [hj, bgs_0, if_pos (by decide)]
  | succ n ih =>
    intro j f M h1 h2 h3 h4 hU
    obtain ⟨f, rfl⟩ : ∃ g, f = g + 1 := ⟨f - 1, by omega⟩
    by_cases q : j = 0
    · refine ⟨M, ?_, fun t a h => by rw [q, bgs_0] at h; simp at h, fun _ _ => rfl, sameOn.rf⟩
      rw [lq3_s]
      generalize lq3 f_X6_traceBack_L59 f = K
      unfold f_X6_traceBack_L59
      rw [q, bgs_0, if_pos (by decide)]
    · obtain ⟨x, hx⟩ := Option.isSome_iff_exists.mp h3
      obtain ⟨b1, b2, b, b3, b4⟩ := bst_some (by omega) hx
      have hfrom := hU j (by omega) h2 x hx
      have hlen := bgs_len (F := F) (s := s) x.2 x.2 (by omega) (by rw [b3]; rfl)
      have hbl : (bgs F s j).length = (bgs F s x.2).length + 1 := by rw [bgs_s q hx, List.length_append]; rfl
      obtain ⟨M', r1, r2, r3, r4⟩ := ih x.2 f (si M 132 (bgs F s x.2).length (iz (x.2 : Int))) (by omega) (by omega) (by rw [b3]; rfl) (by omega) (fun t u1 u2 y hy => by rw [gi_si, if_neg (by omega)]; exact hU t u1 u2 y hy)
      refine ⟨M', ?_, fun t a h => ?_, fun t ht => ?_, (sameOn.si (by omega)).tr r4⟩
      · rw [lq3_s]
        generalize lq3 f_X6_traceBack_L59 f = K at r1 ⊢
        unfold f_X6_traceBack_L59
        have e1 : ((bgs F s j).length : Int) - 1 = ((bgs F s x.2).length : Int) := by omega
        rw [e1, if_neg (not_neg _ (by omega)), c_at a136 (by omega) (by omega), b_s1, hfrom, c_put a132 (by omega) (by omega), b_s1, nmq_q]
        have e2 : iz ((bgs F s x.2).length : Int) + (-1 : Int32) = iz (((bgs F s x.2).length : Int) - 1) := by
          rw [← iz_minus1, iz_add]; congr 1
        rw [e2]; exact r1
      · rw [bgs_s q hx] at h
        rcases snoc_at h with ⟨u1, u2⟩ | ⟨u1, u2⟩
        · exact r2 t a u2
        · rw [r3 t (by omega), gi_si, if_pos ⟨rfl, u1⟩, u2]
      · rw [r3 t (by omega), gi_si, if_neg (by omega)]
/-- how many lines, or -9 -/
def cntV (F : List Fr) (s : Nat → Int) : Int := match bst F s F.length with
  | none => -9
  | some _ => ((bgs F s F.length).length : Int)
/-- the lines that the class found -/
def cSol (M : Mem) (F : List Fr) (s : Nat → Int) : Prop := gf M 133 F.length = oV (bst F s F.length) ∧ gi M 126 3 = iz (if (bst F s F.length).isSome = true then ((bgs F s F.length).length : Int) else 0) ∧ ((bst F s F.length).isSome = true → ∀ t a : Nat, (bgs F s F.length)[t]? = some a → gi M 132 t = iz (a : Int))
theorem c_solve {p : Nat} (hp : p = 1 ∨ p = 12) {v : PV} (hv : okV v) {M : Mem} (hc : cPar M p v) {F : List Fr} (hk : okFs F) (hF : cFr M F) :
    ∃ M', f_X6_solve p M = some (iz (cntV F v.2.2.2), M') ∧ cSol M' F v.2.2.2 ∧ cMs M' v.2.2.2 ∧ sameOn (fun a => a < 126 ∨ (128 ≤ a ∧ a < 132) ∨ a = 134 ∨ a = 135 ∨ 137 ≤ a) M M' := by
  have hl := hk.1
  have hs := hv.2.2.2.2.2
  have a133 : alen 133 = 193 := rfl
  obtain ⟨M1, m1, m2, m3⟩ := c_measure hp hv hc
  obtain ⟨M3, b1, b2, b3⟩ := c_beginB a133 M1 F.length hl
  have s13 : sameOn (fun a => a ≠ 127 ∧ a ≠ 133) M M3 := (m3.mono (fun a ha => ha.1)).tr (b3.mono (fun a ha => ha.2))
  have hF3 : cFr M3 F := hF.same (s13.mono (fun a ha => by omega))
  have hm3 : cMs M3 v.2.2.2 := m2.same (b3.mono (fun a ha => by omega))
  obtain ⟨M9, r1, r2, r3, r4, r5⟩ := c_solveL hk hs F.length FU 0 M3 (by omega) (by rw [FU_eq]; omega) hF3 hm3 (fun j hj => by rw [Pi_0]; exact b2 j hj) (fun j h1 h2 x hx => by
    rw [Pi_0] at hx
    unfold P0 at hx
    rw [if_neg (by omega)] at hx; cases hx)
  obtain ⟨M10, e10⟩ : ∃ M10, M10 = si M9 126 3 (0 : Int32) := ⟨_, rfl⟩
  have s10 : sameOn (fun a => a ≠ 126) M9 M10 := by rw [e10]; exact sameOn.si (by omega)
  have hF9 : cFr M9 F := hF3.same (r5.mono (fun a ha => by omega))
  have hF10 : cFr M10 F := hF9.same (s10.mono (fun a ha => by omega))
  have hm10 : cMs M10 v.2.2.2 := r4.same (s10.mono (fun a ha => by omega))
  have hU10 : cU M10 F.length (bst F v.2.2.2) := fun j h1 h2 x hx => by rw [(s10 136 (by omega)).1]; exact r3 j h1 h2 x hx
  have hT10 : gf M10 133 F.length = oV (bst F v.2.2.2 F.length) := by rw [(s10 133 (by omega)).2.2]; exact r2 F.length (Nat.le_refl _)
  have hleast : f_X6_leastTotal M10 = some (oV (bst F v.2.2.2 F.length)) := by
    unfold f_X6_leastTotal
    rw [hF10.1, c_bestAt a133 hl, b_s1, hT10]
  have sAll : sameOn (fun a => a < 126 ∨ (128 ≤ a ∧ a < 132) ∨ a = 132 ∨ a = 134 ∨ a = 135 ∨ 137 ≤ a) M M10 := ((s13.mono (fun a ha => by omega)).tr (r5.mono (fun a ha => by omega))).tr (s10.mono (fun a ha => by omega))
  obtain ⟨n1, n2⟩ := oV_neg (F := F) (H := bst F v.2.2.2) (fun j x hj hx => bst_ok hk hs j j (by omega) hj x hx) (j := F.length) (Nat.le_refl _)
  have hun : f_X6_solve p M = (if 0 ≤ cmp3 (zv (oV (bst F v.2.2.2 F.length))) 0 then (bq1 (f_X6_traceBack M10) (fun (M14 : Mem) => some ((gi M14 126 3), M14))) else some ((-9 : Int32), M10)) := by
    unfold f_X6_solve
    have r1' : lq2 f_X6_solve_L17 FU (0 : Int32) M3 = some M9 := r1
    rw [m1, b_s1, b1, b_s1, r1', b_s1, nmq_q, ← e10, hleast, b_s1, (fc_val n1 (nn_ne c_0.1)).1, c_0.2.2]
  rw [hun]
  unfold cntV cSol
  cases hb : bst F v.2.2.2 F.length with
  | none =>
    have hz : zv (oV (bst F v.2.2.2 F.length)) < 0 := n2.mpr hb
    rw [hb] at hz
    refine ⟨M10, ?_, ⟨?_, ?_, fun h => by cases h⟩, hm10, sAll.mono (fun a ha => by omega)⟩
    · rw [if_neg (fun e => by have := cmp3_ge.mp e; omega)]; rfl
    · rw [hT10, hb]
    · rw [e10, gi_si, if_pos ⟨rfl, rfl⟩]; rfl
  | some x =>
    have hz : ¬ zv (oV (bst F v.2.2.2 F.length)) < 0 := fun e => by rw [n2.mp e] at hb; cases hb
    rw [hb] at hz
    have hsome : (bst F v.2.2.2 F.length).isSome := by rw [hb]; rfl
    have hbl := bgs_len (F := F) (s := v.2.2.2) F.length F.length (Nat.le_refl _) hsome
    obtain ⟨M11, t1, t2, t3⟩ := c_tr1 hk F.length F.length FU 0 M10 (Nat.le_refl _) (Nat.le_refl _) hsome (by rw [FU_eq]; omega) (by omega) (by rw [e10, gi_si, if_pos ⟨rfl, rfl⟩]; rfl) hU10
    have hF11 : cFr M11 F := hF10.same (t3.mono (fun a ha => by omega))
    obtain ⟨M12, u1, u2, u3, u4⟩ := c_tr2 hk F.length F.length FU M11 (Nat.le_refl _) (Nat.le_refl _) hsome (by rw [FU_eq]; omega) (fun j h1 h2 x hx => by rw [(t3 136 (by omega)).1]; exact hU10 j h1 h2 x hx)
    rw [Nat.zero_add] at t2
    have h12 : gi M12 126 3 = iz ((bgs F v.2.2.2 F.length).length : Int) := by rw [(u4 126 (by omega)).1]; exact t2
    refine ⟨M12, ?_, ⟨?_, ?_, fun _ t a h => u2 t a h⟩, hm10.same ((t3.mono (fun a ha => by omega)).tr (u4.mono (fun a ha => by omega))), (sAll.mono (fun a ha => by omega)).tr ((t3.mono (fun a ha => by omega)).tr (u4.mono (fun a ha => by omega)))⟩
    · rw [if_pos (cmp3_ge.mpr (by omega))]
      unfold f_X6_traceBack
      rw [hF10.1, nmq_q, t1, b_s1, nmq_q, nmq_q, hF11.1, t2]
      have e : iz ((bgs F v.2.2.2 F.length).length : Int) - (1 : Int32) = iz (((bgs F v.2.2.2 F.length).length : Int) - 1) := by rw [show (1 : Int32) = iz (1 : Int) from rfl, iz_sub]
      rw [e, u1, b_s1, b_s1, h12]
    · rw [(u4 133 (by omega)).2.2, (t3 133 (by omega)).2.2, hT10, hb]
    · rw [h12]; rfl
