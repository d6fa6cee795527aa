/-! totals by a number of lines: the tables -/
theorem nn_inj {x y : UInt32} (hx : nn x) (hy : nn y) (h1 : 2 ^ 149 ≤ uz x) (h : uz x = uz y) : x = y := by
  have hp : (2 : Nat) ^ 23 ≤ 2 ^ 149 := Nat.pow_le_pow_right (by omega) (by omega)
  obtain ⟨c, q, ho, rfl⟩ := nn_mk hx (Nat.le_trans hp h1)
  obtain ⟨c', q', ho', rfl⟩ := nn_mk hy (Nat.le_trans hp (by rw [← h]; exact h1))
  have g1 := ho.2.2.1
  have g2 := ho'.2.2.1
  have l1 := mk_lt ho (k := (q + 173).toNat) (by omega)
  have l2 := mk_lt ho' (k := (q + 173).toNat) (by omega)
  have l3 := mk_lt ho' (k := (q' + 173).toNat) (by omega)
  have l4 := mk_lt ho (k := (q' + 173).toNat) (by omega)
  have e : q = q' := by
    have a := l1.mpr (by omega)
    rw [h] at a
    have a := l2.mp a
    have b := l3.mpr (by omega)
    rw [← h] at b
    have b := l4.mp b
    omega
  subst e
  rw [mk_uz ho, mk_uz ho'] at h
  rw [Nat.eq_of_mul_eq_mul_right (Nat.two_pow_pos _) h]
theorem tot_inj {x y : UInt32} {j : Nat} (hj : 1 ≤ j) (hx : tot x j) (hy : tot y j) (h : zv x = zv y) : x = y := by
  refine nn_inj hx.1 hy.1 (hx.2.2 hj) ?_
  rw [zv_nn hx.1, zv_nn hy.1] at h
  exact Int.ofNat_inj.mp h
def updS (t c : Option UInt32) : Option UInt32 := match c with
  | none => t
  | some x => match t with
    | none => some x
    | some y => if zv x < zv y then some x else some y
def dscS (C : Nat → Option UInt32) : Nat → Option UInt32 → Option UInt32
  | 0, t => t
  | m + 1, t => dscS C m (updS t (C m))
def combS (a : Option (UInt32 × Nat)) (t : Option UInt32) : Option UInt32 := match a with
  | none => t
  | some x => match t with
    | none => some x.1
    | some y => if zv x.1 < zv y then some x.1 else some y
theorem combS_step {G : UInt32 → Prop} (hG : ∀ x y, G x → G y → zv x = zv y → x = y) (a : Option (UInt32 × Nat)) (t c : Option UInt32) (m : Nat) (ha : ∀ x, a = some x → G x.1) (hc : ∀ x, c = some x → G x) : combS a (updS t c) = combS (updB a c m) t := by
  cases c with
  | none => rfl
  | some x =>
    have hx := hc x rfl
    cases a with
    | none =>
      cases t with
      | none => rfl
      | some y => rfl
    | some z =>
      have hz := ha z rfl
      have hi := hG x z.1 hx hz
      cases t with
      | none =>
        show (if zv z.1 < zv x then some z.1 else some x) = combS (if zv x < zv z.1 then some (x, m) else some z) none
        by_cases q : zv x < zv z.1
        · rw [if_pos q, if_neg (by omega)]; rfl
        · rw [if_neg q]
          show _ = some z.1
          by_cases q2 : zv z.1 < zv x
          · rw [if_pos q2]
          · rw [if_neg q2, hi (by omega)]
      | some y =>
        show combS (some z) (if zv x < zv y then some x else some y) = combS (if zv x < zv z.1 then some (x, m) else some z) (some y)
        by_cases q1 : zv x < zv y
        · rw [if_pos q1]
          show (if zv z.1 < zv x then some z.1 else some x) = _
          by_cases q2 : zv x < zv z.1
          · rw [if_pos q2, if_neg (by omega)]
            show _ = (if zv x < zv y then some x else some y)
            rw [if_pos q1]
          · rw [if_neg q2]
            show _ = (if zv z.1 < zv y then some z.1 else some y)
            rw [if_pos (show zv z.1 < zv y by omega)]
            by_cases q3 : zv z.1 < zv x
            · rw [if_pos q3]
            · rw [if_neg q3, hi (by omega)]
        · rw [if_neg q1]
          show (if zv z.1 < zv y then some z.1 else some y) = _
          by_cases q2 : zv x < zv z.1
          · rw [if_pos q2, if_neg (by omega)]
            show _ = (if zv x < zv y then some x else some y)
            rw [if_neg q1]
          · rw [if_neg q2]; rfl
theorem dscS_comb {G : UInt32 → Prop} (hG : ∀ x y, G x → G y → zv x = zv y → x = y) {C : Nat → Option UInt32} : ∀ m t, (∀ i, i < m → ∀ x, C i = some x → G x) → dscS C m t = combS (asc C m) t
  | 0, t, _ => rfl
  | m + 1, t, h => by
    show dscS C m (updS t (C m)) = combS (updB (asc C m) (C m) m) t
    rw [dscS_comb hG m _ (fun i hi => h i (by omega))]
    refine combS_step hG _ _ _ _ (fun x hx => ?_) (fun x hx => h m (by omega) x hx)
    obtain ⟨a1, a2⟩ := asc_some m x hx
    exact h x.2 (by omega) x.1 a2
theorem combS_none (a : Option (UInt32 × Nat)) : combS a none = a.map (·.1) := by cases a <;> rfl
theorem dscS_none {C : Nat → Option UInt32} : ∀ m t, (∀ i, i < m → C i = none) → dscS C m t = t
  | 0, _, _ => rfl
  | m + 1, t, h => by
    show dscS C m (updS t (C m)) = t
    rw [h m (by omega)]
    exact dscS_none m t (fun i hi => h i (by omega))
/-- the least totals with so many lines -/
def tbK (F : List Fr) (s : Nat → Int) : Nat → Tb
  | 0 => P0
  | k + 1 => fun j => asc (cnd F s (tbK F s k) j) j
theorem cnd_tot {F : List Fr} (hk : okFs F) {s : Nat → Int} (hs : okS s) {H : Tb} (hH : okT F H) {i j : Nat} (hij : i < j) (hj : j ≤ F.length) {x : UInt32} (h : cnd F s H j i = some x) : tot x j := by
  unfold cnd at h
  by_cases q : okB F s i j = true
  · rw [if_pos q] at h
    cases hb : H i with
    | none => rw [hb] at h; cases h
    | some b =>
      rw [hb] at h
      have h : some (FP.fadd b.1 (demV F s i j)) = some x := h
      rw [← Option.some.inj h]
      exact tot_add hk hs hij hj (okB_iff.mp q).1 (hH i b (by omega) hb)
  · rw [if_neg q] at h; cases h
theorem asc_tot {F : List Fr} (hk : okFs F) {s : Nat → Int} (hs : okS s) {H : Tb} (hH : okT F H) : okT F (fun j => asc (cnd F s H j) j) := by
  intro j x hj hx
  obtain ⟨a1, a2⟩ := asc_some j x hx
  exact cnd_tot hk hs hH a1 hj a2
theorem tbK_ok {F : List Fr} (hk : okFs F) {s : Nat → Int} (hs : okS s) : ∀ k, okT F (tbK F s k)
  | 0 => P0_ok
  | k + 1 => asc_tot hk hs (tbK_ok hk hs k)
theorem asc_dsc {F : List Fr} (hk : okFs F) {s : Nat → Int} (hs : okS s) {H : Tb} (hH : okT F H) {j : Nat} (hj1 : 1 ≤ j) (hj : j ≤ F.length) : dscS (cnd F s H j) j none = (asc (cnd F s H j) j).map (·.1) := by
  rw [dscS_comb (G := fun x => tot x j) (fun x y hx hy e => tot_inj hj1 hx hy e) j none (fun i hi x hx => cnd_tot hk hs hH hi hj hx), combS_none]
/-! the class's -/
def rQi (F : List Fr) (s : Nat → Int) (H : Tb) (i : Nat) : Tb := fun j => asc (cnd F s H j) (min i j)
theorem rQi_0 {F : List Fr} {s : Nat → Int} {H : Tb} (j : Nat) : rQi F s H 0 j = none := by
  unfold rQi
  rw [Nat.zero_min]; rfl
theorem rQi_n {F : List Fr} {s : Nat → Int} {H : Tb} {i j : Nat} (h : j ≤ i) : rQi F s H i j = asc (cnd F s H j) j := by
  unfold rQi
  rw [Nat.min_eq_right h]
theorem rQi_s {F : List Fr} {s : Nat → Int} {H : Tb} (i j : Nat) : rchT F s H i (rQi F s H i) j = rQi F s H (i + 1) j := by
  unfold rchT
  by_cases q : i < j
  · rw [if_pos q]
    unfold rQi
    rw [Nat.min_eq_left (show i ≤ j by omega), Nat.min_eq_left (show i + 1 ≤ j by omega)]; rfl
  · rw [if_neg q, rQi_n (by omega), rQi_n (by omega)]
theorem rQi_ok {F : List Fr} (h : okFs F) {s : Nat → Int} (hs : okS s) {H : Tb} (hH : okT F H) : ∀ i, i ≤ F.length → okT F (rQi F s H i)
  | 0, _ => fun j x hj hx => by rw [rQi_0] at hx; cases hx
  | i + 1, hi => fun j x hj hx => by
    rw [← rQi_s] at hx
    exact rchT_ok h hs hH (rQi_ok h hs hH i (by omega)) (by omega) j x hj hx
theorem c_rowL {F : List Fr} (hk : okFs F) {s : Nat → Int} (hs : okS s) {H : Tb} (hH : okT F H) : ∀ (d f i : Nat) (M : Mem), i + d = F.length → d < f → cFr M F → cMs M s → cT M 134 F.length H → cT M 135 F.length (rQi F s H i) → cU M F.length (rQi F s H i) →
    ∃ M', lq2 f_X6_totalBy_L34 f (iz (i : Int)) M = some M' ∧ cT M' 135 F.length (fun j => asc (cnd F s H j) j) ∧ cMs M' s ∧ sameOn (fun a => a ≠ 135 ∧ a ≠ 136 ∧ a ≠ 127) M M' := by
  have hl := hk.1
  have a134 : alen 134 = 193 := rfl
  have a135 : alen 135 = 193 := rfl
  intro d
  induction d with
  | zero =>
    intro f i M e1 e2 hF hm hT0 hT hU
    obtain ⟨f, rfl⟩ : ∃ g, f = g + 1 := ⟨f - 1, by omega⟩
    refine ⟨M, ?_, fun j hj => ?_, hm, sameOn.rf⟩
    · rw [lq2_s]
      generalize lq2 f_X6_totalBy_L34 f = K
      unfold f_X6_totalBy_L34
      rw [hF.1, if_pos (le_cnt (by omega) (by omega))]
    · have := hT j hj
      rw [rQi_n (by omega)] at this; exact this
  | succ d ih =>
    intro f i M e1 e2 hF hm hT0 hT hU
    obtain ⟨f, rfl⟩ : ∃ g, f = g + 1 := ⟨f - 1, by omega⟩
    obtain ⟨M1, r1, r2, r3, r4, r5⟩ := c_reach hk hs a134 a135 ⟨by omega, by omega, by omega⟩ (i := i) (by omega) (H := H) hH (rQi_ok hk hs hH i (by omega)) hF hm (hT0 i (by omega)) hT hU
    have hF1 : cFr M1 F := hF.same (r5.mono (fun a ha => by omega))
    obtain ⟨M', q1, q2, q4, q5⟩ := ih f (i + 1) M1 (by omega) (by omega) hF1 r4 (fun j hj => by rw [(r5 134 (by omega)).2.2]; exact hT0 j hj) (fun j hj => by rw [← rQi_s]; exact r2 j hj) (fun j h1 h2 x hx => by rw [← rQi_s] at hx; exact r3 j h1 h2 x hx)
    refine ⟨M', ?_, q2, q4, r5.tr q5⟩
    rw [lq2_s]
    generalize lq2 f_X6_totalBy_L34 f = K at q1 ⊢
    unfold f_X6_totalBy_L34
    rw [hF.1, if_neg (nle_cnt (by omega) (by omega)), r1, b_s1, nmq_q, iz_s]; exact q1
theorem min193 : f_J9_min_7cf53 (193 : Int32) (193 : Int32) = some (193 : Int32) := rfl
theorem cp193 : cpB (0 : Int32) (0 : Int32) (193 : Int32) 193 193 := ⟨by decide, by decide, by decide, by decide, by decide⟩
theorem c_rowsL {F : List Fr} (hk : okFs F) {s : Nat → Int} (hs : okS s) {N : Nat} (hN : N ≤ 20) : ∀ (d f k : Nat) (M : Mem), k + d = N → d < f → cFr M F → cMs M s → cT M 134 F.length (tbK F s k) →
    ∃ M', lq2 (f_X6_totalBy_L17 (iz (N : Int))) f (iz (k : Int)) M = some M' ∧ cT M' 134 F.length (tbK F s N) ∧ sameOn (fun a => a ≠ 134 ∧ a ≠ 135 ∧ a ≠ 136 ∧ a ≠ 127) M M' := by
  have hl := hk.1
  have a135 : alen 135 = 193 := rfl
  intro d
  induction d with
  | zero =>
    intro f k M e1 e2 hF hm hT
    obtain ⟨f, rfl⟩ : ∃ g, f = g + 1 := ⟨f - 1, by omega⟩
    refine ⟨M, ?_, by rw [show N = k by omega]; exact hT, sameOn.rf⟩
    rw [lq2_s]
    generalize lq2 (f_X6_totalBy_L17 (iz (N : Int))) f = K
    unfold f_X6_totalBy_L17
    rw [if_pos (le_cnt (by omega) (by omega))]
  | succ d ih =>
    intro f k M e1 e2 hF hm hT
    obtain ⟨f, rfl⟩ : ∃ g, f = g + 1 := ⟨f - 1, by omega⟩
    obtain ⟨M1, p1, p2, p3⟩ := c_fill a135 (3212836864 : UInt32) M
    have hF1 : cFr M1 F := hF.same (p3.mono (fun a ha => by omega))
    have hm1 : cMs M1 s := hm.same (p3.mono (fun a ha => by omega))
    obtain ⟨M2, r1, r2, r3, r4⟩ := c_rowL hk hs (tbK_ok hk hs k) F.length FU 0 M1 (by omega) (by rw [FU_eq]; omega) hF1 hm1 (fun j hj => by rw [(p3 134 (by omega)).2.2]; exact hT j hj) (fun j hj => by rw [rQi_0, p2 j (by omega)]; rfl) (fun j h1 h2 x hx => by rw [rQi_0] at hx; cases hx)
    have r1' : lq2 f_X6_totalBy_L34 FU (0 : Int32) M1 = _ := r1
    obtain ⟨M3, hM3⟩ : ∃ M3, M3 = srf M2 134 (va_cpy (gf M2 135) (gf M2 134) (0 : Int32).toNatClampNeg (0 : Int32).toNatClampNeg (193 : Int32).toNatClampNeg) := ⟨_, rfl⟩
    have s3 : sameOn (fun a => a ≠ 134) M2 M3 := fun a ha => ⟨by rw [hM3]; rfl, by rw [hM3]; rfl, by rw [hM3]; funext j; rw [gf_srf, if_neg ha]⟩
    have hT3 : cT M3 134 F.length (tbK F s (k + 1)) := fun j hj => by
      rw [hM3, gf_srf, if_pos rfl, pk_cpy_in (by show (0 : Nat) ≤ j; omega) (by show j < (0 : Nat) + 193; omega)]
      have := r2 j hj
      show gf M2 135 (0 + (j - 0)) = _
      rw [Nat.zero_add, Nat.sub_zero]; exact this
    obtain ⟨M', q1, q2, q3⟩ := ih f (k + 1) M3 (by omega) (by omega) ((hF1.same (r4.mono (fun a ha => by omega))).same (s3.mono (fun a ha => by omega))) (r3.same (s3.mono (fun a ha => by omega))) hT3
    refine ⟨M', ?_, q2, (((p3.mono (fun a ha => by omega)).tr (r4.mono (fun a ha => by omega))).tr (s3.mono (fun a ha => by omega))).tr q3⟩
    rw [lq2_s]
    generalize lq2 (f_X6_totalBy_L17 (iz (N : Int))) f = K at q1 ⊢
    unfold f_X6_totalBy_L17
    rw [if_neg (nle_cnt (by omega) (by omega)), p1, b_s1, r1', b_s1, min193, b_s1, g_t cp193, nmq_q, ← hM3, nmq_q, iz_s]; exact q1
theorem c_totBy {v : PV} (hv : okV v) {M : Mem} (hc : cPar M 1 v) {F : List Fr} (hk : okFs F) (hF : cFr M F) {N : Nat} (hN : N ≤ 20) : ∃ M', f_X6_totalBy 1 (iz (N : Int)) M = some (oV (tbK F v.2.2.2 N F.length), M') ∧ sameOn (fun a => a ≠ 134 ∧ a ≠ 135 ∧ a ≠ 136 ∧ a ≠ 127) M M' := by
  have hl := hk.1
  have hs := hv.2.2.2.2.2
  have a134 : alen 134 = 193 := rfl
  obtain ⟨M1, m1, m2, m3⟩ := c_measure (p := 1) (Or.inl rfl) hv hc
  obtain ⟨M2, b1, b2, b3⟩ := c_beginB a134 M1 F.length hl
  have hF1 : cFr M1 F := hF.same (m3.mono (fun a ha => by omega))
  have hF2 : cFr M2 F := hF1.same (b3.mono (fun a ha => by omega))
  obtain ⟨M', q1, q2, q3⟩ := c_rowsL hk hs hN N FU 0 M2 (by omega) (by rw [FU_eq]; omega) hF2 (m2.same (b3.mono (fun a ha => by omega))) b2
  have q1' : lq2 (f_X6_totalBy_L17 (iz (N : Int))) FU (0 : Int32) M2 = _ := q1
  have hF3 : cFr M' F := hF2.same (q3.mono (fun a ha => by omega))
  refine ⟨M', ?_, ((m3.mono (fun a ha => by omega)).tr (b3.mono (fun a ha => by omega))).tr q3⟩
  unfold f_X6_totalBy
  rw [m1, b_s1, b1, b_s1, q1', b_s1, hF3.1, c_bestAt a134 hl, b_s1, q2 F.length (Nat.le_refl _)]
theorem c_botV {F : List Fr} {H : Tb} (hH : okT F H) {j : Nat} (hj : j ≤ F.length) (h1 : j = 0 → H j = none) : f_X8_bitsOfTotal (oV (H j)) = some (totB (H j)) := by
  obtain ⟨n1, n2⟩ := oV_neg hH hj
  unfold f_X8_bitsOfTotal
  rw [(fc_val n1 (nn_ne c_0.1)).1, c_0.2.2]
  cases hb : H j with
  | none =>
    have := n2.mpr hb
    rw [hb] at this
    rw [if_neg (fun e => by have := cmp3_ge.mp e; omega)]; rfl
  | some x =>
    have ht := hH j x hj hb
    have hz : zv (oV (some x)) = (uz x.1 : Int) := zv_nn ht.1
    rw [if_pos (cmp3_ge.mpr (by omega))]
    show bq1 (f_X8_bitsOf x.1) _ = some x.1.toInt32
    have hj0 : j ≠ 0 := fun e => by rw [h1 e] at hb; cases hb
    rw [c_bitsP ht.1 (Nat.le_trans (Nat.pow_le_pow_right (by omega) (by omega)) (ht.2.2 (by omega))), b_s1]
