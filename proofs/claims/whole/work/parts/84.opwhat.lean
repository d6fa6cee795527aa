/-! whatIs -/
def wiB (v : PV) (rw_ : List Nat) (t : Nat) (i : Nat) : Bool := asT (fun n => cntV (frs (setN v (up v.2.2.2 t (i : Int))) 0 v.1) (up (up v.2.2.2 t (i : Int)) 0 n)) rw_ 0
theorem or_bitB {b : Nat → Bool} {i : Nat} (hi : i < 16) {x : Bool} (hx : x = b i) : (if (if x = true then (1 : Int32) else 0) = 0 then iz ((hyB b i : Nat) : Int) else iz ((hyB b i : Nat) : Int) ||| ishl_ (1 : Int32) (iz (i : Int))) = iz ((hyB b (i + 1) : Nat) : Int) := by
  have e : hyB b (i + 1) = hyB b i + (if b i = true then 2 ^ i else 0) := rfl
  rw [e, ← hx]
  by_cases q : x = true
  · rw [if_pos q, if_neg (by decide), if_pos q, or_bit (hyB_lt b i) hi]
  · rw [if_neg q, if_pos rfl, if_neg q]; rfl
theorem c_wiL {v : PV} (hv : okV v) {rw_ : List Nat} (h16 : rw_.length ≤ 16) (h99 : ∀ a ∈ rw_, a ≤ 99) {p1 : Int32} {t n : Nat} (ht : (p1 = 0 ∧ t = 8 ∧ n = 6) ∨ (¬ p1 = 0 ∧ t = 9 ∧ n = 10)) : ∀ (d f i : Nat) (M : Mem) (w z : Int), i + d = n → d < f → okS (up (up v.2.2.2 t w) 0 z) → gi M 0 8 = iz (rw_.length : Int) → (∀ (i a : Nat), rw_[i]? = some a → gi M 137 i = iz (a : Int)) → cPar M 12 (setN v (up (up v.2.2.2 t w) 0 z)) →
    ∃ M', lq3 (f_X8_whatIs_L43 p1 (iz (n : Int))) f (iz ((hyB (wiB v rw_ t) i : Nat) : Int)) (iz (i : Int)) M = some (iz ((hyB (wiB v rw_ t) n : Nat) : Int), M') ∧ sameOn (fun a => a < 12 ∨ (23 ≤ a ∧ a < 126) ∨ 137 ≤ a) M M' := by
  have ht0 : t ≠ 0 := by omega
  intro d
  induction d with
  | zero =>
    intro f i M w z e1 e2 hwz h8 hr hc
    obtain ⟨f, rfl⟩ : ∃ g, f = g + 1 := ⟨f - 1, by omega⟩
    refine ⟨M, ?_, sameOn.rf⟩
    rw [lq3_s]
    generalize lq3 (f_X8_whatIs_L43 p1 (iz (n : Int))) f = K
    unfold f_X8_whatIs_L43
    rw [if_pos (le_cnt (by omega) (by omega)), show i = n by omega]
  | succ d ih =>
    intro f i M w z e1 e2 hwz h8 hr hc
    obtain ⟨f, rfl⟩ : ∃ g, f = g + 1 := ⟨f - 1, by omega⟩
    have hgi : okS (up v.2.2.2 t (i : Int)) := okS_up' hv.2.2.2.2.2 (by omega)
    have eup : up (up (up v.2.2.2 t w) 0 z) t (i : Int) = up (up v.2.2.2 t (i : Int)) 0 z := by
      rw [up_comm (up v.2.2.2 t w) (i := 0) (j := t) (by omega), up_up]
    have hz' : okS (up (up v.2.2.2 t (i : Int)) 0 z) := okS_up0 hgi (show 10 ≤ z from hwz.1.1) (show z ≤ 80 from hwz.1.2)
    have hc1 := hc.num (i := t) (z := (i : Int))
    have hc1 : cPar (si M 12 (3 + t) (iz (i : Int))) 12 (setN v (up (up (up v.2.2.2 t w) 0 z) t (i : Int))) := hc1
    rw [eup] at hc1
    have hset : (if p1 = 0 then (nmq (si M 12 11 (iz (i : Int))) (fun (M31 : Mem) => (some (M31)))) else (nmq (si M 12 12 (iz (i : Int))) (fun (M30 : Mem) => (some (M30))))) = some (si M 12 (3 + t) (iz (i : Int))) := by
      rcases ht with ⟨h, h2, _⟩ | ⟨h, h2, _⟩
      · rw [if_pos h, h2]; rfl
      · rw [if_neg h, h2]; rfl
    obtain ⟨M2, r1, r2, r3⟩ := c_cut (p := 12) (Or.inr rfl) (hv.setN hz') hc1 (g := 0) (by omega)
    rw [leftW_0] at r2
    have eF : frs (setN v (up (up v.2.2.2 t (i : Int)) 0 z)) 0 (setN v (up (up v.2.2.2 t (i : Int)) 0 z)).1 = frs (setN v (up v.2.2.2 t (i : Int))) 0 v.1 := frs_congr (v := setN v (up v.2.2.2 t (i : Int))) (v' := setN v (up (up v.2.2.2 t (i : Int)) 0 z)) rfl rfl rfl rfl v.1 0
    rw [eF] at r2
    have hk : okFs (frs (setN v (up v.2.2.2 t (i : Int))) 0 v.1) := frs_okFs (hv.setN hgi) (fun q hq => hq) (Nat.le_refl _)
    have s1 : sameOn (fun a => a < 12 ∨ (23 ≤ a ∧ a < 126) ∨ 137 ≤ a) M (si M 12 (3 + t) (iz (i : Int))) := sameOn.si (by omega)
    have s2 : sameOn (fun a => a < 12 ∨ (23 ≤ a ∧ a < 126) ∨ 137 ≤ a) M M2 := s1.tr (r3.mono (fun a ha => by omega))
    obtain ⟨M3, z', q1, q0, q2, q3, q4⟩ := c_asL hv hgi hk h16 h99 rw_ FU 0 M2 z rfl (by rw [FU_eq]; omega) (by omega) (by rw [(s2 0 (by omega)).1]; exact h8) (fun i a h => by rw [(s2 137 (by omega)).1]; exact hr i a h) hz' (par_cut (Or.inr rfl) hc1 r3) r2
    have s3 := s2.tr q4
    obtain ⟨M', u1, u2⟩ := ih f (i + 1) M3 (i : Int) z' (by omega) (by omega) q0 (by rw [(s3 0 (by omega)).1]; exact h8) (fun i a h => by rw [(s3 137 (by omega)).1]; exact hr i a h) q2
    refine ⟨M', ?_, s3.tr u2⟩
    rw [lq3_s]
    generalize lq3 (f_X8_whatIs_L43 p1 (iz (n : Int))) f = K at u1 ⊢
    have r1' : f_X0_cut 12 (0 : Int32) (si M 12 (3 + t) (iz (i : Int))) = some M2 := r1
    have q1' : f_X8_isAsTold (si M 12 (3 + t) (iz (i : Int))) = some ((if wiB v rw_ t i = true then (1 : Int32) else 0), M3) := by
      unfold f_X8_isAsTold
      rw [r1', b_s1]; exact q1
    have hor := or_bitB (b := wiB v rw_ t) (i := i) (by omega) rfl
    unfold f_X8_whatIs_L43
    rw [if_neg (nle_cnt (by omega) (by omega)), hset, b_s1, q1', b_s2, nmq_q, nmq_q, nmq_q, iz_s]
    by_cases c : (if wiB v rw_ t i = true then (1 : Int32) else 0) = 0
    · rw [if_pos c] at hor ⊢
      rw [hor]; exact u1
    · rw [if_neg c] at hor ⊢
      rw [hor]; exact u1
theorem m_wiL {v : PV} (hv : okV v) {rw_ : List Nat} (h16 : rw_.length ≤ 16) (h99 : ∀ a ∈ rw_, a ≤ 99) {p1 : Int32} {t n : Nat} (ht : (p1 = 0 ∧ t = 8 ∧ n = 6) ∨ (¬ p1 = 0 ∧ t = 9 ∧ n = 10)) : ∀ (d f i : Nat) (M : Mem) (w : Int), i + d = n → d < f → okS (up v.2.2.2 t w) → gi M 139 52 = iz (rw_.length : Int) → (∀ (i a : Nat), rw_[i]? = some a → gi M 168 i = iz (a : Int)) → mPar (rdNow M) (setN v (up v.2.2.2 t w)) →
    ∃ M', lq3 (f_X9_whatIs_L32 p1) f (iz ((hyB (wiB v rw_ t) i : Nat) : Int)) (iz (i : Int)) M = some (iz ((hyB (wiB v rw_ t) n : Nat) : Int), M') ∧ kX (fun j => j = 11 + t) M M' := by
  have hn : (if p1 = 0 then ((6 : Int32)) else ((10 : Int32))) = iz (n : Int) := by
    rcases ht with ⟨h, _, h2⟩ | ⟨h, _, h2⟩
    · rw [if_pos h, h2]; rfl
    · rw [if_neg h, h2]; rfl
  intro d
  induction d with
  | zero =>
    intro f i M w e1 e2 hw h8 hr hm
    obtain ⟨f, rfl⟩ : ∃ g, f = g + 1 := ⟨f - 1, by omega⟩
    refine ⟨M, ?_, kX.rf⟩
    rw [lq3_s]
    generalize lq3 (f_X9_whatIs_L32 p1) f = K
    unfold f_X9_whatIs_L32
    rw [nmq_q, hn, if_pos (le_cnt (by omega) (by omega)), show i = n by omega]
  | succ d ih =>
    intro f i M w e1 e2 hw h8 hr hm
    obtain ⟨f, rfl⟩ : ∃ g, f = g + 1 := ⟨f - 1, by omega⟩
    have hgi : okS (up v.2.2.2 t (i : Int)) := okS_up' hv.2.2.2.2.2 (by omega)
    have hm1 := hm.num (hv.setN hw) (i := t) (z := (i : Int)) (by omega)
    have hm1 : mPar (rdNow (si M 139 (11 + t) (iz (i : Int)))) (setN v (up (up v.2.2.2 t w) t (i : Int))) := hm1
    rw [up_up] at hm1
    have hset : (if p1 = 0 then (nmq (si M 139 19 (iz (i : Int))) (fun (M35 : Mem) => (some (M35)))) else (nmq (si M 139 20 (iz (i : Int))) (fun (M34 : Mem) => (some (M34))))) = some (si M 139 (11 + t) (iz (i : Int))) := by
      rcases ht with ⟨h, h2, _⟩ | ⟨h, h2, _⟩
      · rw [if_pos h, h2]; rfl
      · rw [if_neg h, h2]; rfl
    obtain ⟨M2, r1, r2⟩ := m_asL hv hgi h16 h99 rw_ FU 0 (si M 139 (11 + t) (iz (i : Int))) rfl (by rw [FU_eq]; omega) (by omega) (by rw [gi_si, if_neg (by omega)]; exact h8) (fun i a h => by rw [gi_si, if_neg (by omega)]; exact hr i a h) hm1
    have k2 : kX (fun j => j = 11 + t) M M2 := (kX.si (J := fun j => j = 11 + t) (Or.inl rfl)).tr r2.toX
    have hm2 : mPar (rdNow M2) (setN v (up v.2.2.2 t (i : Int))) := r2.par (hv.setN hgi) hm1
    obtain ⟨M', u1, u2⟩ := ih f (i + 1) M2 (i : Int) (by omega) (by omega) hgi (by rw [k2.2.1 52 (by omega) (by omega)]; exact h8) (fun i a h => by rw [(k2.1 168 (by omega)).1]; exact hr i a h) hm2
    refine ⟨M', ?_, k2.tr u2⟩
    rw [lq3_s]
    generalize lq3 (f_X9_whatIs_L32 p1) f = K at u1 ⊢
    have r1' : f_X9_areLinesSo (si M 139 (11 + t) (iz (i : Int))) = some ((if wiB v rw_ t i = true then (1 : Int32) else 0), M2) := r1
    have hor := or_bitB (b := wiB v rw_ t) (i := i) (by omega) rfl
    unfold f_X9_whatIs_L32
    rw [nmq_q, hn, if_neg (nle_cnt (by omega) (by omega)), hset, b_s1, r1', b_s2, nmq_q, nmq_q, nmq_q, iz_s]
    by_cases c : (if wiB v rw_ t i = true then (1 : Int32) else 0) = 0
    · rw [if_pos c] at hor ⊢
      rw [Int32.or_zero, hor]; exact u1
    · rw [if_neg c] at hor ⊢
      rw [hor]; exact u1
theorem op_whatIs {M : Mem} (hI : Inv M) (p : Int32) : both M (f_X8_whatIs p) (f_X9_whatIs p) := by
  obtain ⟨y, y1, y2, rfl⟩ := iz_ex p
  have eo : f_X8_isOther (iz y) (2 : Int32) = _ := c_isOther (z := y) (n := 2) y1 y2 (by omega) (by omega)
  have ei : f_X9_isIn (iz y) (0 : Int32) (1 : Int32) = _ := m_isIn (z := y) (lo := 0) (hi := 1) y1 y2 (by omega) (by omega) (by omega) (by omega)
  have kn2 : ∀ M', f_X9_no (-2 : Int32) M' = f_X9_no (iz (-((2 : Nat) : Int))) M' := fun _ => rfl
  have kc2 : ∀ M', f_X8_refuse (-2 : Int32) M' = f_X8_refuse (iz (-((2 : Nat) : Int))) M' := fun _ => rfl
  by_cases q3 : 0 ≤ y ∧ y < 2
  case neg =>
    rw [if_neg q3] at eo
    rw [if_neg (show ¬ (0 ≤ y ∧ y ≤ 1) by omega)] at ei
    refine both_no hI (v := 2) (by omega) ?_ (fun M' => ?_)
    · simp (decide := true) only [f_X8_whatIs, eo, b_s1, if_false, b2_id]; exact kc2 _
    · simp (decide := true) only [f_X9_whatIs, ei, b_s1, if_true, b2_id]; exact kn2 _
  rw [if_pos q3] at eo
  rw [if_pos (show 0 ≤ y ∧ y ≤ 1 by omega)] at ei
  have hI' := hI
  obtain ⟨now, img, st, ct, hist, ls, rw_, R, hg, hC, hM⟩ := hI
  have hv := hg.1.1
  have h16 := hg.2.2.2.2.2.2.2.1
  have h99 := hg.2.2.2.2.2.2.2.2
  obtain ⟨t, n, ht⟩ : ∃ t n : Nat, (iz y = 0 ∧ t = 8 ∧ n = 6) ∨ (¬ iz y = 0 ∧ t = 9 ∧ n = 10) := by
    by_cases c : iz y = 0
    · exact ⟨8, 6, Or.inl ⟨c, rfl, rfl⟩⟩
    · exact ⟨9, 10, Or.inr ⟨c, rfl, rfl⟩⟩
  have hn : (if iz y = 0 then ((6 : Int32)) else ((10 : Int32))) = iz (n : Int) := by
    rcases ht with ⟨h, _, h2⟩ | ⟨h, _, h2⟩
    · rw [if_pos h, h2]; rfl
    · rw [if_neg h, h2]; rfl
  refine both_ask hI' (r := iz ((hyB (wiB now rw_ t) n : Nat) : Int)) ?_ (fun M' hs' => ?_)
  · obtain ⟨M1, e1, p1, s1⟩ := c_become (p := 12) (q := 1) (M := M) (v := now) (by decide) (by decide) (by omega) hC.1 hv
    have p1' : cPar M1 12 (setN now (up (up now.2.2.2 t (now.2.2.2 t)) 0 (now.2.2.2 0))) := by rw [up_same, up_same]; exact p1
    obtain ⟨M2, b1, b2⟩ := c_wiL hv h16 h99 ht n FU 0 M1 _ _ (by omega) (by rw [FU_eq]; omega) (by rw [up_same, up_same]; exact hv.2.2.2.2.2) (by rw [(s1 0 (by omega)).1]; exact hC.2.2.2.2.2.1.1) (fun i a h => by rw [(s1 137 (by omega)).1]; exact hC.2.2.2.2.2.1.2 i a h) p1'
    refine ⟨M2, keepC.of ((s1.mono (fun a ha => by omega)).tr b2), ?_⟩
    have b1' : lq3 (f_X8_whatIs_L43 (iz y) (iz (n : Int))) FU (0 : Int32) (0 : Int32) M1 = _ := b1
    unfold f_X8_whatIs
    rw [eo, b_s1, if_pos rfl, e1, b_s1, nmq_q, hn, b1', b_s2]
  · have hMM := hM.same hg hs'
    have hm' : mPar (rdNow M') (setN now (up now.2.2.2 t (now.2.2.2 t))) := by rw [up_same]; exact hMM.1
    obtain ⟨M2, b1, b2⟩ := m_wiL hv h16 h99 ht n FU 0 M' _ (by omega) (by rw [FU_eq]; omega) (by rw [up_same]; exact hv.2.2.2.2.2) hMM.2.2.2.2.2.1.1 hMM.2.2.2.2.2.1.2 hm'
    have b1' : lq3 (f_X9_whatIs_L32 (iz y)) FU (0 : Int32) (0 : Int32) M' = _ := b1
    obtain ⟨M3, hM3⟩ : ∃ M3, M3 = si (si M2 139 19 (gi M' 139 19)) 139 20 (gi M' 139 20) := ⟨_, rfl⟩
    have g3 : ∀ j, gi M3 139 j = if j = 20 then gi M' 139 20 else if j = 19 then gi M' 139 19 else gi M2 139 j := fun j => by
      rw [hM3, gi_si, gi_si]; simp only [true_and]
    refine ⟨M3, ⟨b2.1.mono (fun a ha => by omega) |>.tr (by rw [hM3]; exact (sameOn.si (by omega)).tr (sameOn.si (by omega))), fun j hj => ?_, fun x hx => ?_⟩, ?_⟩
    · rw [g3]
      by_cases q20 : j = 20
      · rw [if_pos q20, q20]
      · rw [if_neg q20]
        by_cases q19 : j = 19
        · rw [if_pos q19, q19]
        · rw [if_neg q19]; exact b2.2.1 j (by omega) (by omega)
    · rw [hM3, gi_si, if_neg (by omega), gi_si, if_neg (by omega)]; exact b2.2.2 x hx
    · unfold f_X9_whatIs
      rw [ei, b_s1, if_neg (by decide), nmq_q, nmq_q, b1', b_s2, nmq_q, nmq_q, ← hM3]
