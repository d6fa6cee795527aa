/-! the bits of a float, told by halving and doubling -/
def mkF (c : Nat) (q : Int) : UInt32 := FP.Core.of32 (.fin false c q)
def okC (c : Nat) (q : Int) : Prop := 2 ^ 23 ≤ c ∧ c < 2 ^ 24 ∧ -149 ≤ q ∧ q ≤ 104
theorem mk_fits {c : Nat} {q : Int} (h : okC c q) : FP.Core.fits FP.Core.b32 (.fin false c q) := by
  obtain ⟨h1, h2, h3, h4⟩ := h
  exact ⟨h2, by rw [FP.Core.qmin_b32]; exact h3, by rw [show FP.Core.b32.qmax = 104 by decide]; exact h4, Or.inr (by rw [FP.Core.tails_b32]; exact h1)⟩
theorem mk_val {c : Nat} {q : Int} (h : okC c q) : fval (mkF c q) = .fin false c q := FP.Core.val32_of32 (mk_fits h)
theorem mk_eq {x : UInt32} {c : Nat} {q : Int} (hx : fval x = .fin false c q) : x = mkF c q := by
  have h := FP.Core.of32_val32 (a := x) (by show fval x ≠ .nan; rw [hx]; exact FP.Core.Datum.noConfusion)
  unfold mkF
  rw [← hx]; exact h.symm
theorem mk_nat {c : Nat} {q : Int} (h : okC c q) : (mkF c q).toNat = (q + 150).toNat * 2 ^ 23 + (c - 2 ^ 23) := by
  have h1 := FP.Core.toNat_of32 (mk_fits h)
  obtain ⟨a, b, d, e⟩ := h
  have ht : FP.Core.b32.tails = 2 ^ 23 := FP.Core.tails_b32
  unfold mkF
  rw [h1]
  show (if c < FP.Core.b32.tails then FP.Core.assemble FP.Core.b32 false 0 c else FP.Core.assemble FP.Core.b32 false ((q - FP.Core.b32.qmin).toNat + 1) (c - FP.Core.b32.tails)) = _
  rw [ht, if_neg (by omega)]
  unfold FP.Core.assemble
  rw [ht, FP.Core.qmin_b32]
  show ((0 : Nat) * _ + ((q - -149).toNat + 1)) * 2 ^ 23 + (c - 2 ^ 23) = _
  rw [Nat.zero_mul, Nat.zero_add, show (q - -149).toNat + 1 = (q + 150).toNat by omega]
theorem mk_nn {c : Nat} {q : Int} (h : okC c q) : nn (mkF c q) := ⟨c, q, mk_val h⟩
theorem mk_uz {c : Nat} {q : Int} (h : okC c q) : uz (mkF c q) = c * 2 ^ (q + 149).toNat := by
  unfold uz
  rw [mk_val h]
  show c * 2 ^ (q - FP.Core.b32.qmin).toNat = _
  rw [FP.Core.qmin_b32, show q - -149 = q + 149 by omega]
theorem mk_lt {c : Nat} {q : Int} (h : okC c q) {k : Nat} (hk : 23 ≤ k) : (uz (mkF c q) < 2 ^ k ↔ q + 149 + 24 ≤ k) := by
  obtain ⟨h1, h2, h3, h4⟩ := h
  rw [mk_uz ⟨h1, h2, h3, h4⟩]
  constructor
  · intro e
    have e2 : 2 ^ 23 * 2 ^ (q + 149).toNat < 2 ^ k := Nat.lt_of_le_of_lt (Nat.mul_le_mul_right _ h1) e
    rw [← Nat.pow_add] at e2
    have := (Nat.pow_lt_pow_iff_right (show 1 < 2 by omega)).mp e2
    omega
  · intro e
    have e2 : c * 2 ^ (q + 149).toNat < 2 ^ 24 * 2 ^ (q + 149).toNat := Nat.mul_lt_mul_of_pos_right h2 (Nat.two_pow_pos _)
    rw [← Nat.pow_add] at e2
    exact Nat.lt_of_lt_of_le e2 (Nat.pow_le_pow_right (by omega) (by omega))
theorem v_2 : fval FP.fconst2 = .fin false (2 ^ 23) (-22) := by decide +kernel
theorem v_23 : fval (1258291200 : UInt32) = .fin false (2 ^ 23) 0 := by decide +kernel
theorem uz_2 : nn FP.fconst2 ∧ uz FP.fconst2 = 2 ^ 150 := ⟨⟨2 ^ 23, -22, v_2⟩, by decide +kernel⟩
theorem mk_half {c : Nat} {q : Int} (h : okC c q) (hq : -149 < q) : FP.fdiv (mkF c q) FP.fconst2 = mkF c (q - 1) := by
  have h' : okC c (q - 1) := ⟨h.1, h.2.1, by omega, by have := h.2.2.2; omega⟩
  refine mk_eq ?_
  have e0 : fval (FP.fdiv (mkF c q) FP.fconst2) = FP.Core.quotient FP.Core.b32 (fval (mkF c q)) (fval FP.fconst2) := FP.Core.val32_fdiv _ _
  rw [e0, mk_val h, v_2]
  show (if (2 : Nat) ^ 23 = 0 then (if c = 0 then FP.Core.Datum.nan else FP.Core.Datum.inf (false != false)) else FP.Core.roundRatio FP.Core.b32 (false != false) c (2 ^ 23) (q - (-22))) = _
  rw [if_neg (by decide)]
  refine FP.Core.roundRatio_exact FP.Core.good_b32 (by decide) (mk_fits h') ?_
  rw [show q - (-22) - (q - 1) = 23 by omega, show q - 1 - (q - (-22)) = -23 by omega]
  show c * 2 ^ 23 = c * 2 ^ 23 * 2 ^ 0
  rw [Nat.pow_zero, Nat.mul_one]
theorem mk_dbl {c : Nat} {q : Int} (h : okC c q) (hq : q < 104) : FP.fmul (mkF c q) FP.fconst2 = mkF c (q + 1) := by
  have h' : okC c (q + 1) := ⟨h.1, h.2.1, by have := h.2.2.1; omega, by omega⟩
  refine mk_eq ?_
  have e0 : fval (FP.fmul (mkF c q) FP.fconst2) = FP.Core.round FP.Core.b32 (FP.Core.exactProduct (fval (mkF c q)) (fval FP.fconst2)) := FP.Core.val32_fmul _ _
  rw [e0, mk_val h, v_2]
  show FP.Core.roundRatio FP.Core.b32 (false != false) (c * 2 ^ 23) 1 (q + (-22)) = _
  refine FP.Core.roundRatio_exact FP.Core.good_b32 (by decide) (mk_fits h') ?_
  rw [show q + (-22) - (q + 1) = -23 by omega, show q + 1 - (q + (-22)) = 23 by omega]
  show c * 2 ^ 23 * 2 ^ 0 = c * 1 * 2 ^ 23
  rw [Nat.pow_zero, Nat.mul_one, Nat.mul_one]
theorem mk_whole {c : Nat} (h : okC c (-23)) : nN (FP.fmul (mkF c (-23)) (1258291200 : UInt32)) ∧ FP.f2i (FP.fmul (mkF c (-23)) (1258291200 : UInt32)) = iz (c : Int) := by
  have h' : okC c 0 := ⟨h.1, h.2.1, by omega, by omega⟩
  have e0 : fval (FP.fmul (mkF c (-23)) (1258291200 : UInt32)) = FP.Core.round FP.Core.b32 (FP.Core.exactProduct (fval (mkF c (-23))) (fval (1258291200 : UInt32))) := FP.Core.val32_fmul _ _
  have e1 : fval (FP.fmul (mkF c (-23)) (1258291200 : UInt32)) = .fin false c 0 := by
    rw [e0, mk_val h, v_23]
    show FP.Core.roundRatio FP.Core.b32 (false != false) (c * 2 ^ 23) 1 (-23 + 0) = _
    refine FP.Core.roundRatio_exact FP.Core.good_b32 (by decide) (mk_fits h') ?_
    show c * 2 ^ 23 * 2 ^ 0 = c * 1 * 2 ^ 23
    rw [Nat.pow_zero, Nat.mul_one, Nat.mul_one]
  refine ⟨nN_of (by rw [e1]; exact FP.Core.Datum.noConfusion), ?_⟩
  have hc : (iz (c : Int)).toInt = (c : Int) := iz_toInt (by omega) (by have := h.2.1; omega)
  have hw : FP.Core.FInt (iz (c : Int)).toInt (FP.fmul (mkF c (-23)) (1258291200 : UInt32)) := by
    show FP.Core.Whole _ (fval (FP.fmul (mkF c (-23)) (1258291200 : UInt32)))
    rw [e1, hc]
    show FP.Core.signed false (c * 2 ^ 0) = (c : Int) * ((2 ^ 0 : Nat) : Int)
    rw [Nat.pow_zero, Nat.mul_one]
    show (c : Int) = (c : Int) * 1
    omega
  exact FP.Core.f2i_int hw
theorem c_halfL {c : Nat} : ∀ (d f i : Nat) (q e : Int), okC c q → (q + 23).toNat ≤ d → -23 ≤ q → i + d ≤ 127 → d < f → -1000 ≤ e → e + d ≤ 1000 → ∃ i' : Int32, lq3 f_X8_bitsOf_L26 f (mkF c q) (iz e) (iz (i : Int)) = some (mkF c (-23), iz (e + (q + 23))) := by
  intro d
  induction d with
  | zero =>
    intro f i q e h h1 h2 h3 h4 h5 h6
    obtain ⟨f, rfl⟩ : ∃ g, f = g + 1 := ⟨f - 1, by omega⟩
    refine ⟨0, ?_⟩
    have hq : q = -23 := by omega
    subst hq
    rw [lq3_s]
    generalize lq3 f_X8_bitsOf_L26 f = K
    unfold f_X8_bitsOf_L26
    have hlt := (mk_lt h (k := 150) (by omega)).mpr (by omega)
    rw [if_neg (show ¬ (128 : Int32) ≤ iz (i : Int) from nle_cnt (n := 128) (by omega) (by omega)), (fc_val (nn_ne (mk_nn h)) (nn_ne uz_2.1)).2, zv_nn (mk_nn h), zv_nn uz_2.1, uz_2.2, if_pos (cmp3_lt.mpr (by omega)), show e + (-23 + 23) = e by omega]
  | succ d ih =>
    intro f i q e h h1 h2 h3 h4 h5 h6
    by_cases q0 : q = -23
    · exact ih f i q e h (by omega) h2 (by omega) (by omega) h5 (by omega)
    obtain ⟨f, rfl⟩ : ∃ g, f = g + 1 := ⟨f - 1, by omega⟩
    have h' : okC c (q - 1) := ⟨h.1, h.2.1, by omega, by have := h.2.2.2; omega⟩
    obtain ⟨i', r⟩ := ih f (i + 1) (q - 1) (e + 1) h' (by omega) (by omega) (by omega) (by omega) (by omega) (by omega)
    refine ⟨i', ?_⟩
    rw [lq3_s]
    generalize lq3 f_X8_bitsOf_L26 f = K at r ⊢
    unfold f_X8_bitsOf_L26
    have hlt := mk_lt h (k := 150) (by omega)
    have hnot : ¬ uz (mkF c q) < 2 ^ 150 := fun t => by have := hlt.mp t; omega
    rw [if_neg (show ¬ (128 : Int32) ≤ iz (i : Int) from nle_cnt (n := 128) (by omega) (by omega)), (fc_val (nn_ne (mk_nn h)) (nn_ne uz_2.1)).2, zv_nn (mk_nn h), zv_nn uz_2.1, uz_2.2, if_neg (fun t => by have := cmp3_lt.mp t; omega), nmq_q, mk_half h (by omega), g_t (nN_of (nn_ne (mk_nn h'))), nmq_q, nmq_q, iz_s, show (1 : Int32) = iz (1 : Int) from rfl, iz_add, r, show e + 1 + (q - 1 + 23) = e + (q + 23) by omega]
theorem c_dblL {c : Nat} : ∀ (d f i : Nat) (q e : Int), okC c q → (-23 - q).toNat ≤ d → q ≤ -23 → i + d ≤ 127 → d < f → lq3 f_X8_bitsOf_L54 f (mkF c q) (iz e) (iz (i : Int)) = some (mkF c (-23), iz (e + (q + 23))) := by
  intro d
  induction d with
  | zero =>
    intro f i q e h h1 h2 h3 h4
    obtain ⟨f, rfl⟩ : ∃ g, f = g + 1 := ⟨f - 1, by omega⟩
    have hq : q = -23 := by omega
    subst hq
    rw [lq3_s]
    generalize lq3 f_X8_bitsOf_L54 f = K
    unfold f_X8_bitsOf_L54
    have hlt := mk_lt h (k := 149) (by omega)
    have hnot : ¬ uz (mkF c (-23)) < 2 ^ 149 := fun t => by have := hlt.mp t; omega
    rw [if_neg (show ¬ (128 : Int32) ≤ iz (i : Int) from nle_cnt (n := 128) (by omega) (by omega)), (fc_val (nn_ne (mk_nn h)) (nn_ne c_1.1)).1, zv_nn (mk_nn h), zv_nn c_1.1, c_1.2, if_pos (cmp3_ge.mpr (by omega)), show e + (-23 + 23) = e by omega]
  | succ d ih =>
    intro f i q e h h1 h2 h3 h4
    by_cases q0 : q = -23
    · exact ih f i q e h (by omega) h2 (by omega) (by omega)
    obtain ⟨f, rfl⟩ : ∃ g, f = g + 1 := ⟨f - 1, by omega⟩
    have h' : okC c (q + 1) := ⟨h.1, h.2.1, by have := h.2.2.1; omega, by omega⟩
    have r := ih f (i + 1) (q + 1) (e - 1) h' (by omega) (by omega) (by omega) (by omega)
    rw [lq3_s]
    generalize lq3 f_X8_bitsOf_L54 f = K at r ⊢
    unfold f_X8_bitsOf_L54
    have hlt := (mk_lt h (k := 149) (by omega)).mpr (by omega)
    rw [if_neg (show ¬ (128 : Int32) ≤ iz (i : Int) from nle_cnt (n := 128) (by omega) (by omega)), (fc_val (nn_ne (mk_nn h)) (nn_ne c_1.1)).1, zv_nn (mk_nn h), zv_nn c_1.1, c_1.2, if_neg (fun t => by have := cmp3_ge.mp t; omega), nmq_q, mk_dbl h (by omega), g_t (nN_of (nn_ne (mk_nn h'))), nmq_q, nmq_q, iz_s, ← iz_minus1, iz_add]
    have ee : e + -1 = e - 1 := by omega
    rw [ee, r, show e - 1 + (q + 1 + 23) = e + (q + 23) by omega]
theorem iz_orN (a b : Nat) (ha : a < 2 ^ 32) (hb : b < 2 ^ 32) : iz (a : Int) ||| iz (b : Int) = iz ((a ||| b : Nat) : Int) := by
  have hab : a ||| b < 2 ^ 32 := Nat.or_lt_two_pow (n := 32) ha hb
  rw [iz_i, iz_i, iz_i]
  have hg : (UInt32.ofNat a ||| UInt32.ofNat b) = UInt32.ofNat (a ||| b) := by
    apply UInt32.toNat_inj.mp
    rw [UInt32.toNat_or, UInt32.toNat_ofNat', UInt32.toNat_ofNat', UInt32.toNat_ofNat', Nat.mod_eq_of_lt (show a < 2 ^ 32 by omega), Nat.mod_eq_of_lt (show b < 2 ^ 32 by omega), Nat.mod_eq_of_lt (show a ||| b < 2 ^ 32 by omega)]
  exact congrArg UInt32.toInt32 hg
theorem shl23_s : (((23 : Int32) &&& 31).toBitVec.smod 32).toNat = 23 := by decide
theorem shl23 {E : Nat} (h : E < 512) : ishl_ (iz (E : Int)) (23 : Int32) = iz ((E * 2 ^ 23 : Nat) : Int) := by
  unfold ishl_
  rw [iz_i E]
  have := pk_shlN (n := E) ((23 : Int32) &&& 31) 23 shl23_s (by omega)
  rw [iz_i]; exact this
theorem or_parts {E T : Nat} (hE : E < 256) (hT : T < 2 ^ 23) : E * 2 ^ 23 ||| T = E * 2 ^ 23 + T := by
  have := Nat.two_pow_add_eq_or_of_lt hT E
  rw [Nat.mul_comm E]; exact this.symm
theorem toI32 {x : UInt32} {n : Nat} (h : x.toNat = n) : x.toInt32 = iz (n : Int) := by
  rw [iz_i, ← h]
  have : x = UInt32.ofNat x.toNat := by simp
  conv => lhs; rw [this]
  rfl
theorem sgn_or {n : Nat} (h : n < 2 ^ 31) : (-2147483648 : Int32) ||| iz (n : Int) = iz ((n + 2 ^ 31 : Nat) : Int) := by
  have e : (-2147483648 : Int32) = iz ((2 ^ 31 : Nat) : Int) := by decide
  have := Nat.two_pow_add_eq_or_of_lt h 1
  rw [e, iz_orN _ _ (by omega) (by omega), ← Nat.mul_one (2 ^ 31), ← this, Nat.mul_one, Nat.add_comm]
/-- the loops and what they give, for a normal number -/
theorem c_bitsN {c : Nat} {q : Int} (h : okC c q) (hq : -149 ≤ q) (sg : Int32) : bq2 (lq3 f_X8_bitsOf_L26 FU (mkF c q) (127 : Int32) (0 : Int32)) (fun (x9 : UInt32) (x10 : Int32) => (bq2 (lq3 f_X8_bitsOf_L54 FU x9 x10 (0 : Int32)) (fun (x16 : UInt32) (x17 : Int32) => (nmq (FP.fmul x16 (1258291200 : UInt32)) (fun (x18 : UInt32) => gq (nN x18) (nmq (((FP.f2i x18) - (8388608 : Int32))) (fun (x20 : Int32) => (nmq sg (fun (x21 : Int32) => some ((x21 ||| (ishl_ x17 (23 : Int32))) ||| x20)))))))))) = some ((sg ||| iz (((q + 150).toNat * 2 ^ 23 : Nat) : Int)) ||| iz ((c - 2 ^ 23 : Nat) : Int)) := by
  have hc2 := h.2.1
  have hc1 := h.1
  have h23 : okC c (-23) := ⟨h.1, h.2.1, by omega, by omega⟩
  obtain ⟨w1, w2⟩ := mk_whole h23
  have efin : ∀ E : Nat, E < 512 → nmq (FP.fmul (mkF c (-23)) (1258291200 : UInt32)) (fun (x18 : UInt32) => gq (nN x18) (nmq (((FP.f2i x18) - (8388608 : Int32))) (fun (x20 : Int32) => (nmq sg (fun (x21 : Int32) => some ((x21 ||| (ishl_ (iz (E : Int)) (23 : Int32))) ||| x20)))))) = some ((sg ||| iz ((E * 2 ^ 23 : Nat) : Int)) ||| iz ((c - 2 ^ 23 : Nat) : Int)) := fun E hE => by
    have e8 : iz (c : Int) - (8388608 : Int32) = iz ((c - 2 ^ 23 : Nat) : Int) := by
      rw [show (8388608 : Int32) = iz (8388608 : Int) from rfl, iz_sub]; congr 1; omega
    rw [nmq_q, g_t w1, nmq_q, nmq_q, w2, e8, shl23 hE]
  have eE : iz (127 + (q + 23)) = iz (((q + 150).toNat : Nat) : Int) := by congr 1; omega
  by_cases hc : -23 ≤ q
  · obtain ⟨_, r⟩ := c_halfL (c := c) 127 FU 0 q 127 h (by have := h.2.2.2; omega) hc (by omega) (by rw [FU_eq]; omega) (by omega) (by omega)
    have r : lq3 f_X8_bitsOf_L26 FU (mkF c q) (127 : Int32) (0 : Int32) = _ := r
    have r2 := c_dblL (c := c) 0 FU 0 (-23) (127 + (q + 23)) h23 (by omega) (by omega) (by omega) (by rw [FU_eq]; omega)
    have r2 : lq3 f_X8_bitsOf_L54 FU (mkF c (-23)) (iz (127 + (q + 23))) (0 : Int32) = _ := r2
    rw [r, b_s2, r2, b_s2, show 127 + (q + 23) + (-23 + 23) = 127 + (q + 23) by omega, eE]
    exact efin _ (by have := h.2.2.2; omega)
  · have hr : lq3 f_X8_bitsOf_L26 FU (mkF c q) (127 : Int32) (0 : Int32) = some (mkF c q, (127 : Int32)) := by
      rw [FU_eq, lq3_s]
      generalize lq3 f_X8_bitsOf_L26 _ = K
      unfold f_X8_bitsOf_L26
      have hlt := (mk_lt h (k := 150) (by omega)).mpr (by omega)
      rw [if_neg (by decide), (fc_val (nn_ne (mk_nn h)) (nn_ne uz_2.1)).2, zv_nn (mk_nn h), zv_nn uz_2.1, uz_2.2, if_pos (cmp3_lt.mpr (by omega))]
    have r2 := c_dblL (c := c) 126 FU 0 q 127 h (by omega) (by omega) (by omega) (by rw [FU_eq]; omega)
    have r2 : lq3 f_X8_bitsOf_L54 FU (mkF c q) (127 : Int32) (0 : Int32) = _ := r2
    rw [hr, b_s2, r2, b_s2, eE]
    exact efin _ (by omega)
/-- a normal number, nonnegative -/
theorem nn_mk {u : UInt32} (h : nn u) (h1 : 2 ^ 23 ≤ uz u) : ∃ c q, okC c q ∧ u = mkF c q := by
  obtain ⟨c, q, e⟩ := h
  have hf := FP.Core.val32_fits u
  rw [show FP.Core.val32 u = fval u from rfl, e] at hf
  obtain ⟨f1, f2, f3, f4⟩ := hf
  rw [FP.Core.qmin_b32] at f2 f4
  rw [show FP.Core.b32.qmax = 104 by decide] at f3
  rw [FP.Core.tails_b32] at f4
  have f1 : c < 2 ^ 24 := f1
  have hu : uz u = c * 2 ^ (q + 149).toNat := by
    unfold uz; rw [e]
    show c * 2 ^ (q - FP.Core.b32.qmin).toNat = _
    rw [FP.Core.qmin_b32, show q - -149 = q + 149 by omega]
  have hc : 2 ^ 23 ≤ c := by
    rcases f4 with t | t
    · rw [t] at hu
      rw [hu] at h1
      have : c * 2 ^ ((-149 : Int) + 149).toNat = c := by show c * 2 ^ 0 = c; rw [Nat.pow_zero, Nat.mul_one]
      omega
    · exact t
  exact ⟨c, q, ⟨hc, f1, f2, f3⟩, mk_eq e⟩
theorem c_bits0 : f_X8_bitsOf FP.fconst0 = some (0 : Int32) := by
  unfold f_X8_bitsOf
  rw [(fc_val (nn_ne c_0.1) (nn_ne c_0.1)).2, if_pos (cmp3_eq.mpr rfl)]
theorem c_bitsP {u : UInt32} (h : nn u) (h1 : 2 ^ 23 ≤ uz u) : f_X8_bitsOf u = some u.toInt32 := by
  obtain ⟨c, q, ho, rfl⟩ := nn_mk h h1
  have hz : zv (mkF c q) = (uz (mkF c q) : Int) := zv_nn h
  have hpos : 0 < (2 : Nat) ^ 23 := Nat.two_pow_pos _
  unfold f_X8_bitsOf
  rw [(fc_val (nn_ne h) (nn_ne c_0.1)).2, (fc_val (nn_ne h) (nn_ne c_0.1)).1, c_0.2.2, if_neg (fun t => by have := cmp3_eq.mp t; omega), if_pos (cmp3_ge.mpr (by omega)), if_pos (cmp3_ge.mpr (by omega)), nmq_q, c_bitsN ho ho.2.2.1]
  have hT : c - 2 ^ 23 < 2 ^ 23 := by have := ho.2.1; omega
  have hE : (q + 150).toNat < 256 := by have := ho.2.2.2; omega
  rw [toI32 (mk_nat ho), Int32.zero_or, iz_orN _ _ (by omega) (by omega), or_parts hE hT]
theorem c_bitsM {r : UInt32} (hr : fval r ≠ .nan) (hneg : zv r < 0) (h : nn (FP.fneg r)) (h1 : 2 ^ 23 ≤ uz (FP.fneg r)) : f_X8_bitsOf r = some r.toInt32 := by
  obtain ⟨c, q, ho, e⟩ := nn_mk h h1
  have hr2 : r = FP.fneg (FP.fneg r) := by
    unfold FP.fneg
    rw [UInt32.xor_assoc, UInt32.xor_self, UInt32.xor_zero]
  have hn := mk_nat ho
  have hT : c - 2 ^ 23 < 2 ^ 23 := by have := ho.2.1; omega
  have hE : (q + 150).toNat < 256 := by have := ho.2.2.2; omega
  have hE2 : (q + 150).toNat < 255 := by have := ho.2.2.2; omega
  have hlt : (mkF c q).toNat < 2 ^ 31 := by rw [hn]; omega
  have hrn : r.toNat = (mkF c q).toNat + 2 ^ 31 := by
    rw [hr2, e]
    have hx : (FP.fneg (mkF c q)).toNat = (mkF c q).toNat ^^^ 2 ^ 31 := by unfold FP.fneg; rw [UInt32.toNat_xor]; rfl
    rw [hx]
    exact (FP.xor_top (a := (mkF c q).toNat) (k := 31) (by omega)).1 hlt
  unfold f_X8_bitsOf
  rw [(fc_val hr (nn_ne c_0.1)).2, (fc_val hr (nn_ne c_0.1)).1, c_0.2.2, if_neg (fun t => by have := cmp3_eq.mp t; omega), if_neg (fun t => by have := cmp3_ge.mp t; omega), if_neg (fun t => by have := cmp3_ge.mp t; omega), e, nmq_q, c_bitsN ho ho.2.2.1, Int32.or_assoc, iz_orN _ _ (by omega) (by omega), or_parts hE hT, sgn_or (by omega), toI32 (n := (q + 150).toNat * 2 ^ 23 + (c - 2 ^ 23) + 2 ^ 31) (by rw [hrn, hn])]
theorem m_bits {x : UInt32} (h : fval x ≠ .nan) : f_Jxf58ca_floatToIntBits_5c35a x = some x.toInt32 := by
  have e : f_Jxf58ca_isNaN_12338 x = some (0 : Int32) := by
    unfold f_Jxf58ca_isNaN_12338
    rw [(fc_val h h).2, if_pos (cmp3_eq.mpr rfl)]
  unfold f_Jxf58ca_floatToIntBits_5c35a
  rw [e, b_s1, if_pos rfl]
theorem bits_0 : (FP.fconst0 : UInt32).toInt32 = 0 := by decide
