/-! the class reaches from a break -/
def oV (t : Option (UInt32 × Nat)) : UInt32 := match t with
  | some x => x.1
  | none => (3212836864 : UInt32)
/-- a row of bests -/
def cT (M : Mem) (k n : Nat) (P : Tb) : Prop := ∀ j, j ≤ n → gf M k j = oV (P j)
/-- where they are from -/
def cU (M : Mem) (n : Nat) (P : Tb) : Prop := ∀ j, 1 ≤ j → j ≤ n → ∀ x, P j = some x → gi M 136 j = iz (x.2 : Int)
theorem oV_neg {F : List Fr} {H : Tb} (hH : okT F H) {j : Nat} (hj : j ≤ F.length) : fval (oV (H j)) ≠ .nan ∧ (zv (oV (H j)) < 0 ↔ H j = none) := by
  cases h : H j with
  | none =>
    refine ⟨c_m1.1, fun _ => rfl, fun _ => ?_⟩
    show zv (3212836864 : UInt32) < 0
    rw [c_m1.2]; decide +kernel
  | some x =>
    have t := hH j x hj h
    refine ⟨nn_ne t.1, fun e => ?_, fun e => by cases e⟩
    have e : zv x.1 < 0 := e
    rw [zv_nn t.1] at e
    omega
theorem c_bestAt {M : Mem} {k j : Nat} (ha : alen k = 193) (hj : j ≤ 160) : f_X6_bestAt k (iz (j : Int)) M = some (gf M k j) := by
  unfold f_X6_bestAt
  rw [jq_q, ha, if_neg (not_neg j (by omega)), if_neg (not_le_ (n := 193) (by omega) (by omega)), g_t (inB_n (by omega) (by omega)), clN (by omega)]
theorem c_offer {M : Mem} {F : List Fr} {P : Tb} {k i j : Nat} {c : UInt32} (ha : alen k = 193) (hP : okT F P) (hk : okFs F) (hj : j ≤ F.length) (h1 : gi M 127 1 = iz (i : Int)) (hT : gf M k j = oV (P j)) (hc : fval c ≠ .nan) (hk127 : k ≠ 127 ∧ k ≠ 136) :
    ∃ M', f_X6_offer k (iz (j : Int)) c M = some M' ∧ gf M' k j = oV (updB (P j) (some c) i) ∧ (∀ x, updB (P j) (some c) i = some x → (P j = some x ∧ gi M' 136 j = gi M 136 j) ∨ gi M' 136 j = iz (x.2 : Int)) ∧ (∀ t, t ≠ j → gf M' k t = gf M k t ∧ gi M' 136 t = gi M 136 t) ∧ sameOn (fun a => a ≠ k ∧ a ≠ 136) M M' := by
  have hl := hk.1
  have a136 : alen 136 = 193 := rfl
  obtain ⟨n1, n2⟩ := oV_neg hP hj
  have hset : ∃ M', gq (inB (iz (j : Int)) (alen k)) (nmq (sf M k ((iz (j : Int) : Int32).toNatClampNeg) c) (fun (M8 : Mem) => bq1 (f_X8_put 136 (iz (j : Int)) (gi M8 127 1) M8) (fun (M9 : Mem) => some M9))) = some M' ∧ gf M' k j = c ∧ gi M' 136 j = iz (i : Int) ∧ (∀ t, t ≠ j → gf M' k t = gf M k t ∧ gi M' 136 t = gi M 136 t) ∧ sameOn (fun a => a ≠ k ∧ a ≠ 136) M M' := by
    refine ⟨si (sf M k j c) 136 j (iz (i : Int)), ?_, ?_, by rw [gi_si, if_pos ⟨rfl, rfl⟩], fun t ht => ⟨?_, by rw [gi_si, if_neg (by omega)]; rfl⟩, (sameOn.sf (by omega)).tr (sameOn.si (by omega))⟩
    · rw [ha, g_t (inB_n (by omega) (by omega)), nmq_q, clN (by omega)]
      have e : gi (sf M k j c) 127 1 = iz (i : Int) := h1
      rw [e, c_put a136 (by omega) (by omega), b_s1]
    · rw [gf_si, gf_sf', if_pos ⟨rfl, rfl⟩]
    · rw [gf_si, gf_sf', if_neg (by omega)]
  obtain ⟨Ms, es, s1, s2, s3, s4⟩ := hset
  have hun : f_X6_offer k (iz (j : Int)) c M = (if cmp3 (zv (oV (P j))) 0 < 0 then some Ms else (if 0 ≤ cmp3 (zv c) (zv (oV (P j))) then some M else some Ms)) := by
    unfold f_X6_offer
    rw [c_bestAt ha (by omega), b_s1, if_neg (not_neg j (by omega)), if_neg (show ¬ Int32.ofNat (alen k) ≤ iz (j : Int) by rw [ha]; exact not_le_ (n := 193) (by omega) (by omega)), jq_q, es, hT, (fc_val n1 (nn_ne c_0.1)).1, (fc_val hc n1).1, c_0.2.2]
  cases hp : P j with
  | none =>
    refine ⟨Ms, ?_, ?_, fun x hx => Or.inr ?_, s3, s4⟩
    · rw [hun, if_pos (cmp3_lt.mpr (n2.mpr hp))]
    · rw [s1]; rfl
    · have hx : some (c, i) = some x := hx
      cases hx; exact s2
  | some y =>
    have hneg : ¬ zv (oV (P j)) < 0 := fun e => by rw [n2.mp e] at hp; cases hp
    rw [hp] at hneg
    rw [hun, hp, if_neg (fun e => hneg (cmp3_lt.mp e))]
    have hov : zv (oV (some y)) = zv y.1 := rfl
    by_cases q : zv c < zv y.1
    · refine ⟨Ms, ?_, ?_, fun x hx => Or.inr ?_, s3, s4⟩
      · rw [if_neg (fun e => by have := cmp3_ge.mp e; omega)]
      · rw [s1]
        show c = oV (if zv c < zv y.1 then some (c, i) else some y)
        rw [if_pos q]; rfl
      · have hx : (if zv c < zv y.1 then some (c, i) else some y) = some x := hx
        rw [if_pos q] at hx; cases hx; exact s2
    · refine ⟨M, ?_, ?_, fun x hx => Or.inl ⟨?_, rfl⟩, fun _ _ => ⟨rfl, rfl⟩, sameOn.rf⟩
      · rw [if_pos (cmp3_ge.mpr (by omega))]
      · rw [hT, hp]
        show oV (some y) = oV (if zv c < zv y.1 then some (c, i) else some y)
        rw [if_neg q]
      · have hx : (if zv c < zv y.1 then some (c, i) else some y) = some x := hx
        rw [if_neg q] at hx; exact hx
/-- the table behind what is reached from i over the breaks above j -/
def rch (F : List Fr) (s : Nat → Int) (b : UInt32) (i j : Nat) (P : Tb) : Tb := fun t => if j < t then updB (P t) (if okB F s i t = true then some (FP.fadd b (demV F s i t)) else none) i else P t
theorem updB_tot {F : List Fr} (h : okFs F) {s : Nat → Int} (hs : okS s) {P : Tb} (hP : okT F P) {b : UInt32} {i : Nat} (hb : tot b i) {t : Nat} (hit : i < t) (ht : t ≤ F.length) {x : UInt32 × Nat} (hx : updB (P t) (if okB F s i t = true then some (FP.fadd b (demV F s i t)) else none) i = some x) : tot x.1 t := by
  by_cases q : okB F s i t = true
  · rw [if_pos q] at hx
    have hta := tot_add h hs hit ht (okB_iff.mp q).1 hb
    cases hp : P t with
    | none =>
      rw [hp] at hx
      have hx : some (FP.fadd b (demV F s i t), i) = some x := hx
      cases hx; exact hta
    | some y =>
      rw [hp] at hx
      have hx : (if zv (FP.fadd b (demV F s i t)) < zv y.1 then some (FP.fadd b (demV F s i t), i) else some y) = some x := hx
      by_cases q2 : zv (FP.fadd b (demV F s i t)) < zv y.1
      · rw [if_pos q2] at hx; cases hx; exact hta
      · rw [if_neg q2] at hx; cases hx; exact hP t _ ht hp
  · rw [if_neg q] at hx
    exact hP t x ht hx
theorem rch_ok {F : List Fr} (h : okFs F) {s : Nat → Int} (hs : okS s) {P : Tb} (hP : okT F P) {b : UInt32} {i j : Nat} (hij : i ≤ j) (hb : tot b i) : okT F (rch F s b i j P) := by
  intro t x ht hx
  unfold rch at hx
  by_cases q : j < t
  · rw [if_pos q] at hx; exact updB_tot h hs hP hb (by omega) ht hx
  · rw [if_neg q] at hx; exact hP t x ht hx
theorem c_reachL {F : List Fr} (hk : okFs F) {s : Nat → Int} (hs : okS s) {k : Nat} (ha : alen k = 193) (hkk : k ≠ 127 ∧ k ≠ 136 ∧ (k < 128 ∨ 132 ≤ k)) {b : UInt32} {i : Nat} (hb : tot b i) : ∀ (d f j : Nat) (M : Mem) (P : Tb), j + d = F.length → i ≤ j → d < f → nfB F i (j + 1) = true → okT F P → cFr M F → cMs M s → cLn M F s i j → cT M k F.length P → cU M F.length P →
    ∃ M', lq2 (f_X6_reachFrom_L28 k b) f (iz ((j + 1 : Nat) : Int)) M = some M' ∧ cT M' k F.length (rch F s b i j P) ∧ cU M' F.length (rch F s b i j P) ∧ cMs M' s ∧ sameOn (fun a => a ≠ k ∧ a ≠ 136 ∧ a ≠ 127) M M' := by
  have hl := hk.1
  intro d
  induction d with
  | zero =>
    intro f j M P e1 e2 e3 e4 hP hF hm hL hT hU
    obtain ⟨f, rfl⟩ : ∃ g, f = g + 1 := ⟨f - 1, by omega⟩
    refine ⟨M, ?_, fun t ht => ?_, fun t h1 h2 x hx => ?_, hm, sameOn.rf⟩
    · rw [lq2_s]
      generalize lq2 (f_X6_reachFrom_L28 k b) f = K
      unfold f_X6_reachFrom_L28
      rw [hF.1, if_pos ((iz_cnt (by omega) (by omega)).1.mpr (by omega))]
    · unfold rch; rw [if_neg (by omega)]; exact hT t ht
    · unfold rch at hx; rw [if_neg (by omega)] at hx; exact hU t h1 h2 x hx
  | succ d ih =>
    intro f j M P e1 e2 e3 e4 hP hF hm hL hT hU
    obtain ⟨f, rfl⟩ : ∃ g, f = g + 1 := ⟨f - 1, by omega⟩
    have hj1 : j + 1 ≤ F.length := by omega
    obtain ⟨M1, g1, g2, g3, g4⟩ := c_grow hs hk hF hm e2 (by omega) hL
    have hF1 : cFr M1 F := hF.same (g4.mono (fun a ha => by omega))
    have hT1 : cT M1 k F.length P := fun t ht => by rw [(g4 k hkk.1).2.2]; exact hT t ht
    have hU1 : cU M1 F.length P := fun t h1 h2 x hx => by rw [(g4 136 (by omega)).1]; exact hU t h1 h2 x hx
    have efit := g2.fit hs hk g3 (by omega) hj1
    have hok : okB F s i (j + 1) = fitV F s i (j + 1) := by unfold okB; rw [e4, Bool.and_true]
    -- what is offered
    obtain ⟨M2, o1, o2, o3, o4, o5⟩ : ∃ M2, (if (if fitV F s i (j + 1) = true then (1 : Int32) else 0) = 0 then (some (M1)) else (bq1 (f_X2_demeritsOfLine M1) (fun (x24 : UInt32) => nmq (FP.fadd b x24) (fun (x26 : UInt32) => gq (nN x26) (bq1 (f_X6_offer k (iz ((j + 1 : Nat) : Int)) x26 M1) (fun (M28 : Mem) => (some (M28)))))))) = some M2 ∧ gf M2 k (j + 1) = oV (updB (P (j + 1)) (if okB F s i (j + 1) = true then some (FP.fadd b (demV F s i (j + 1))) else none) i) ∧ (∀ x, updB (P (j + 1)) (if okB F s i (j + 1) = true then some (FP.fadd b (demV F s i (j + 1))) else none) i = some x → gi M2 136 (j + 1) = iz (x.2 : Int)) ∧ (∀ t, t ≠ j + 1 → gf M2 k t = gf M1 k t ∧ gi M2 136 t = gi M1 136 t) ∧ sameOn (fun a => a ≠ k ∧ a ≠ 136) M1 M2 := by
      rw [hok]
      by_cases q : fitV F s i (j + 1) = true
      · have hta := tot_add hk hs (i := i) (j := j + 1) (by omega) hj1 q hb
        obtain ⟨M2, p1, p2, p3, p4, p5⟩ := c_offer (M := M1) (F := F) (P := P) (k := k) (i := i) (j := j + 1) (c := FP.fadd b (demV F s i (j + 1))) ha hP hk hj1 g2.1 (hT1 (j + 1) hj1) (nn_ne hta.1) ⟨hkk.1, hkk.2.1⟩
        refine ⟨M2, ?_, ?_, fun x hx => ?_, p4, p5⟩
        · rw [if_pos q, if_neg (by decide), g2.dem hs hk g3 (by omega) hj1 q, b_s1, nmq_q, g_t (nN_of (nn_ne hta.1)), p1, b_s1]
        · rw [if_pos q]; exact p2
        · rw [if_pos q] at hx
          rcases p3 x hx with ⟨t1, t2⟩ | t
          · rw [t2]; exact hU1 (j + 1) (by omega) hj1 x t1
          · exact t
      · refine ⟨M1, by rw [if_neg q, if_pos rfl], ?_, fun x hx => ?_, fun _ _ => ⟨rfl, rfl⟩, sameOn.rf⟩
        · rw [if_neg q]; exact hT1 (j + 1) hj1
        · rw [if_neg q] at hx; exact hU1 (j + 1) (by omega) hj1 x hx
    have s127 : sameOn (fun a => a = 127) M1 M2 := o5.mono (fun a ha => by omega)
    have m2 : cMs M2 s := g3.same s127
    have L2 : cLn M2 F s i (j + 1) := g2.same s127
    have F2 : cFr M2 F := hF1.same (o5.mono (fun a ha => by omega))
    have efull := L2.full hs hk m2 (by omega) hj1
    have s12 : sameOn (fun a => a ≠ k ∧ a ≠ 136 ∧ a ≠ 127) M M2 := (g4.mono (fun a ha => by omega)).tr (o5.mono (fun a ha => by omega))
    have hstep : lq2 (f_X6_reachFrom_L28 k b) (f + 1) (iz ((j + 1 : Nat) : Int)) M = (if (if fullB F s i (j + 1) = true then (1 : Int32) else 0) = 0 then lq2 (f_X6_reachFrom_L28 k b) f (iz ((j + 1 + 1 : Nat) : Int)) M2 else some M2) := by
      rw [lq2_s]
      generalize lq2 (f_X6_reachFrom_L28 k b) f = K
      unfold f_X6_reachFrom_L28
      rw [hF.1, if_neg (fun e => by have := (iz_cnt (n := F.length) (m := j + 1) (by omega) (by omega)).1.mp e; omega), g1, b_s1, efit, b_s1, o1, b_s1, efull, b_s1, nmq_q, iz_s]
    -- the table with this one
    obtain ⟨P1, hP1⟩ : ∃ P1 : Tb, P1 = fun t => if t = j + 1 then updB (P (j + 1)) (if okB F s i (j + 1) = true then some (FP.fadd b (demV F s i (j + 1))) else none) i else P t := ⟨_, rfl⟩
    have hP1at : ∀ t, P1 t = if t = j + 1 then updB (P (j + 1)) (if okB F s i (j + 1) = true then some (FP.fadd b (demV F s i (j + 1))) else none) i else P t := fun t => by rw [hP1]
    have hP1ok : okT F P1 := by
      intro t x ht hx
      rw [hP1at t] at hx
      by_cases q : t = j + 1
      · rw [if_pos q] at hx
        rw [q]
        exact updB_tot hk hs hP hb (t := j + 1) (by omega) hj1 hx
      · rw [if_neg q] at hx; exact hP t x ht hx
    have hT2 : cT M2 k F.length P1 := by
      intro t ht
      rw [hP1at t]
      by_cases q : t = j + 1
      · rw [if_pos q, q]; exact o2
      · rw [if_neg q, (o4 t q).1]; exact hT1 t ht
    have hU2 : cU M2 F.length P1 := by
      intro t h1 h2 x hx
      rw [hP1at t] at hx
      by_cases q : t = j + 1
      · rw [if_pos q] at hx; rw [q]; exact o3 x hx
      · rw [if_neg q] at hx; rw [(o4 t q).2]; exact hU1 t h1 h2 x hx
    by_cases hfu : fullB F s i (j + 1) = true
    · have hsame : ∀ t, t ≤ F.length → rch F s b i j P t = P1 t := by
        intro t ht
        rw [hP1at t]
        unfold rch
        by_cases q : j < t
        · rw [if_pos q]
          by_cases q2 : t = j + 1
          · rw [if_pos q2, q2]
          · rw [if_neg q2, full_no hk hs (by omega) (by omega) ht hfu, if_neg (by decide)]; rfl
        · rw [if_neg q, if_neg (by omega)]
      refine ⟨M2, ?_, fun t ht => ?_, fun t h1 h2 x hx => ?_, m2, s12⟩
      · rw [hstep, if_pos hfu, if_neg (by decide)]
      · rw [hsame t ht]; exact hT2 t ht
      · rw [hsame t h2] at hx; exact hU2 t h1 h2 x hx
    · have hnf : nfB F i (j + 1 + 1) = true := by
        rw [nfB_iff]
        intro t h1 h2
        by_cases q : t = j + 1
        · rw [q]; exact fun e => hfu (fullB_iff.mpr (Or.inl e))
        · exact (nfB_iff (j + 1)).mp e4 t h1 (by omega)
      obtain ⟨M', r1, r2, r3, r4, r5⟩ := ih f (j + 1) M2 P1 (by omega) (by omega) (by omega) hnf hP1ok F2 m2 L2 hT2 hU2
      have hsame : ∀ t, rch F s b i (j + 1) P1 t = rch F s b i j P t := by
        intro t
        unfold rch
        by_cases q : j + 1 < t
        · rw [if_pos q, if_pos (show j < t by omega), hP1at t, if_neg (show ¬ t = j + 1 by omega)]
        · rw [if_neg q, hP1at t]
          by_cases q2 : t = j + 1
          · rw [if_pos q2, if_pos (show j < t by omega), q2]
          · rw [if_neg q2, if_neg (show ¬ j < t by omega)]
      refine ⟨M', ?_, fun t ht => by rw [← hsame t]; exact r2 t ht, fun t h1 h2 x hx => by rw [← hsame t] at hx; exact r3 t h1 h2 x hx, r4, s12.tr r5⟩
      rw [hstep, if_neg hfu, if_pos rfl]; exact r1
/-- all that is reached from a break -/
def rchT (F : List Fr) (s : Nat → Int) (H : Tb) (i : Nat) (P : Tb) : Tb := fun t => if i < t then updB (P t) (cnd F s H t i) i else P t
theorem rchT_ok {F : List Fr} (h : okFs F) {s : Nat → Int} (hs : okS s) {H P : Tb} (hH : okT F H) (hP : okT F P) {i : Nat} (hi : i ≤ F.length) : okT F (rchT F s H i P) := by
  intro t x ht hx
  unfold rchT at hx
  by_cases q : i < t
  · rw [if_pos q] at hx
    unfold cnd at hx
    cases hh : H i with
    | none =>
      rw [hh] at hx
      by_cases q2 : okB F s i t = true
      · rw [if_pos q2] at hx; exact hP t x ht hx
      · rw [if_neg q2] at hx; exact hP t x ht hx
    | some y =>
      rw [hh] at hx
      exact updB_tot h hs hP (hH i y hi hh) q ht hx
  · rw [if_neg q] at hx; exact hP t x ht hx
theorem c_reach {F : List Fr} (hk : okFs F) {s : Nat → Int} (hs : okS s) {k2 k3 : Nat} (ha2 : alen k2 = 193) (ha3 : alen k3 = 193) (hkk : k3 ≠ 127 ∧ k3 ≠ 136 ∧ (k3 < 128 ∨ 132 ≤ k3)) {i : Nat} (hi : i < F.length) {M : Mem} {H P : Tb} (hH : okT F H) (hP : okT F P) (hF : cFr M F) (hm : cMs M s) (hT0 : gf M k2 i = oV (H i)) (hT : cT M k3 F.length P) (hU : cU M F.length P) :
    ∃ M', f_X6_reachFrom (iz (i : Int)) k2 k3 M = some M' ∧ cT M' k3 F.length (rchT F s H i P) ∧ cU M' F.length (rchT F s H i P) ∧ cMs M' s ∧ sameOn (fun a => a ≠ k3 ∧ a ≠ 136 ∧ a ≠ 127) M M' := by
  have hl := hk.1
  obtain ⟨n1, n2⟩ := oV_neg hH (j := i) (by omega)
  cases hh : H i with
  | none =>
    have hz : zv (oV (H i)) < 0 := n2.mpr hh
    have hsame : ∀ t, rchT F s H i P t = P t := by
      intro t
      unfold rchT cnd
      rw [hh]
      by_cases q : i < t
      · rw [if_pos q]
        by_cases q2 : okB F s i t = true
        · rw [if_pos q2]; rfl
        · rw [if_neg q2]; rfl
      · rw [if_neg q]
    refine ⟨M, ?_, fun t ht => by rw [hsame t]; exact hT t ht, fun t h1 h2 x hx => by rw [hsame t] at hx; exact hU t h1 h2 x hx, hm, sameOn.rf⟩
    unfold f_X6_reachFrom
    rw [c_bestAt ha2 (by omega), b_s1, hT0, (fc_val n1 (nn_ne c_0.1)).1, c_0.2.2, if_neg (fun e => by have := cmp3_ge.mp e; omega)]
  | some y =>
    have hty := hH i y (by omega) hh
    have hz : ¬ zv (oV (H i)) < 0 := fun e => by rw [n2.mp e] at hh; cases hh
    obtain ⟨M1, b1, b2, b3, b4⟩ := c_begin (i := i) hF hm hl (by omega)
    have hF1 : cFr M1 F := hF.same (b4.mono (fun a ha => by omega))
    have hT1 : cT M1 k3 F.length P := fun t ht => by rw [(b4 k3 hkk.1).2.2]; exact hT t ht
    have hU1 : cU M1 F.length P := fun t h1 h2 x hx => by rw [(b4 136 (by omega)).1]; exact hU t h1 h2 x hx
    obtain ⟨M', r1, r2, r3, r4, r5⟩ := c_reachL hk hs ha3 hkk hty (F.length - i) FU i M1 P (by omega) (by omega) (by rw [FU_eq]; omega) (by rw [nfB_iff]; intro t h1 h2; omega) hP hF1 b3 b2 hT1 hU1
    have hsame : ∀ t, rch F s y.1 i i P t = rchT F s H i P t := by
      intro t
      unfold rch rchT cnd
      rw [hh]; rfl
    refine ⟨M', ?_, fun t ht => by rw [← hsame t]; exact r2 t ht, fun t h1 h2 x hx => by rw [← hsame t] at hx; exact r3 t h1 h2 x hx, r4, (b4.mono (fun a ha => by omega)).tr r5⟩
    unfold f_X6_reachFrom
    rw [c_bestAt ha2 (by omega), b_s1, hT0, (fc_val n1 (nn_ne c_0.1)).1, c_0.2.2, if_pos (cmp3_ge.mpr (by omega)), b1, b_s1, nmq_q, iz_s]
    have e : oV (H i) = y.1 := by rw [hh]; rfl
    rw [e]; exact r1
