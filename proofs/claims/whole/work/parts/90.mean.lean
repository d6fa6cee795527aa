/-! longs -/
def ln (n : Nat) : Int64 := Int64.ofNat n
theorem ln_i {n : Nat} (h : n < 2 ^ 63) : (ln n).toInt = (n : Int) := Int64.toInt_ofNat_of_lt h
theorem ln_of {x : Int64} {n : Nat} (h : n < 2 ^ 63) (e : x.toInt = (n : Int)) : x = ln n := Int64.toInt.inj (e.trans (ln_i h).symm)
theorem iz_ln {z : Int} (h1 : 0 ≤ z) (h2 : z < 2147483648) : (iz z).toInt64 = ln z.toNat := by
  refine ln_of (by omega) ?_
  rw [Int32.toInt_toInt64, iz_toInt (by omega) h2]
  omega
theorem bm64 {z : Int} (h1 : -9223372036854775808 ≤ z) (h2 : z < 9223372036854775808) : z.bmod (2 ^ 64) = z := Int.bmod_eq_of_le (by omega) (by omega)
theorem ln_div {a b : Nat} (ha : a < 2 ^ 63) (hb : b < 2 ^ 63) : ln a / ln b = ln (a / b) := by
  have h := Nat.div_le_self a b
  refine ln_of (by omega) ?_
  rw [Int64.toInt_div, ln_i ha, ln_i hb, ← Int.ofNat_tdiv, bm64 (by have := Int.natCast_nonneg (a / b); omega) (by omega)]
theorem ln_mul {a b : Nat} (ha : a < 2 ^ 63) (hb : b < 2 ^ 63) (hab : a * b < 2 ^ 63) : ln a * ln b = ln (a * b) := by
  refine ln_of hab ?_
  rw [Int64.toInt_mul, ln_i ha, ln_i hb, ← Int.natCast_mul, bm64 (by omega) (by omega)]
theorem ln_add {a b : Nat} (hab : a + b < 2 ^ 63) : ln a + ln b = ln (a + b) := by
  refine ln_of hab ?_
  rw [Int64.toInt_add, ln_i (by omega), ln_i (by omega), bm64 (by omega) (by omega)]
  omega
theorem lrm_ln {a b : Nat} (ha : a < 2 ^ 63) (hb : b < 2 ^ 63) (hb0 : 0 < b) : lrm (ln a) (ln b) = ln (a % b) := by
  unfold lrm
  have h := Nat.div_mul_le_self a b
  have h2 : a / b * b < 2 ^ 63 := by omega
  rw [ln_div ha hb, ln_mul (by have := Nat.div_le_self a b; omega) hb h2]
  have h3 : a % b + b * (a / b) = a := Nat.mod_add_div a b
  have h4 : b * (a / b) = a / b * b := Nat.mul_comm _ _
  refine ln_of (by have := Nat.mod_le a b; omega) ?_
  rw [Int64.toInt_sub, ln_i ha, ln_i h2, bm64 (by omega) (by omega)]
  omega
theorem ln_inj {a b : Nat} (ha : a < 2 ^ 63) (hb : b < 2 ^ 63) : ln a = ln b ↔ a = b := ⟨fun e => by have := congrArg Int64.toInt e; rw [ln_i ha, ln_i hb] at this; omega, fun e => by rw [e]⟩
theorem ln_0 : (0 : Int64) = ln 0 := rfl
theorem ln_1 : (1 : Int64) = ln 1 := rfl
theorem lcm_z {a : Nat} (ha : a < 2 ^ 63) : lcm (ln a) (0 : Int64) = (if a = 0 then 0 else 1) := by
  unfold lcm lg_cmp
  by_cases q : a = 0
  · subst q; rfl
  · rw [if_pos (show (0 : Int64) < ln a from Int64.lt_iff_toInt_lt.mpr (by rw [ln_0, ln_i (by decide), ln_i ha]; omega)), if_neg q]
def euN : Nat → Nat → Nat → Prop
  | 0, _, b => b = 0
  | n + 1, a, b => b = 0 ∨ euN n b (a % b)
theorem eu_ok : ∀ k a b, b < 2 ^ k → euN (2 * k) a b
  | 0, a, b, h => by show b = 0; have : b < 1 := h; omega
  | k + 1, a, b, h => by
    show b = 0 ∨ euN (2 * k + 1) b (a % b)
    by_cases q : b = 0
    · exact Or.inl q
    refine Or.inr ?_
    show a % b = 0 ∨ euN (2 * k) (a % b) (b % (a % b))
    by_cases q2 : a % b = 0
    · exact Or.inl q2
    refine Or.inr (eu_ok k _ _ ?_)
    have h1 : a % b < b := Nat.mod_lt _ (by omega)
    have h2 : b % (a % b) < a % b := Nat.mod_lt _ (by omega)
    have h3 : a % b + b % (a % b) ≤ b := by
      have e := Nat.mod_add_div b (a % b)
      have : 1 ≤ b / (a % b) := (Nat.one_le_div_iff (by omega)).mpr (by omega)
      have := Nat.mul_le_mul_left (a % b) this
      omega
    have h4 : 2 ^ (k + 1) = 2 * 2 ^ k := by rw [Nat.pow_succ]; omega
    omega
theorem gcd_s {a b : Nat} : Nat.gcd b (a % b) = Nat.gcd a b := by rw [Nat.gcd_comm b, ← Nat.gcd_rec, Nat.gcd_comm]
theorem c_gcdL : ∀ (n a b f i : Nat), euN n a b → a < 2 ^ 63 → b < 2 ^ 63 → n < f → i + n < 200 → lq3 f_X8_commonDivisor_L9 f (ln a) (ln b) (iz (i : Int)) = some (ln (Nat.gcd a b)) := by
  intro n
  induction n with
  | zero =>
    intro a b f i h ha hb hf hi
    obtain ⟨f, rfl⟩ : ∃ g, f = g + 1 := ⟨f - 1, by omega⟩
    have h : b = 0 := h
    subst h
    rw [lq3_s]
    generalize lq3 f_X8_commonDivisor_L9 f = K
    unfold f_X8_commonDivisor_L9
    rw [if_neg (show ¬ (200 : Int32) ≤ iz (i : Int) from not_le_ (n := 200) (by omega) (by omega)), if_pos (show lcm (ln 0) (0 : Int64) ≤ 0 by rw [lcm_z hb]; decide), Nat.gcd_zero_right]
  | succ n ih =>
    intro a b f i h ha hb hf hi
    obtain ⟨f, rfl⟩ : ∃ g, f = g + 1 := ⟨f - 1, by omega⟩
    rw [lq3_s]
    have h : b = 0 ∨ euN n b (a % b) := h
    by_cases q : b = 0
    · subst q
      generalize lq3 f_X8_commonDivisor_L9 f = K
      unfold f_X8_commonDivisor_L9
      rw [if_neg (show ¬ (200 : Int32) ≤ iz (i : Int) from not_le_ (n := 200) (by omega) (by omega)), if_pos (show lcm (ln 0) (0 : Int64) ≤ 0 by rw [lcm_z hb]; decide), Nat.gcd_zero_right]
    · have h := h.resolve_left q
      have hm := Nat.mod_lt a (show b > 0 by omega)
      have ih := ih b (a % b) f (i + 1) h hb (by omega) (by omega) (by omega)
      generalize lq3 f_X8_commonDivisor_L9 f = K at ih ⊢
      unfold f_X8_commonDivisor_L9
      rw [if_neg (show ¬ (200 : Int32) ≤ iz (i : Int) from not_le_ (n := 200) (by omega) (by omega)), if_neg (show ¬ lcm (ln b) (0 : Int64) ≤ 0 by rw [lcm_z hb, if_neg q]; decide), g_t (show ¬ ln b = 0 by rw [ln_0, ln_inj hb (by decide)]; exact q), nmq_q, nmq_q, lrm_ln ha hb (by omega), iz_s, ih, gcd_s]
theorem m_gcdL : ∀ (n a b f : Nat), euN n a b → a < 2 ^ 63 → b < 2 ^ 63 → n < f → lq2 f_X9_divisor_L6 f (ln a) (ln b) = some (ln (Nat.gcd a b)) := by
  intro n
  induction n with
  | zero =>
    intro a b f h ha hb hf
    obtain ⟨f, rfl⟩ : ∃ g, f = g + 1 := ⟨f - 1, by omega⟩
    have h : b = 0 := h
    subst h
    rw [lq2_s]
    generalize lq2 f_X9_divisor_L6 f = K
    unfold f_X9_divisor_L6
    rw [if_pos (show lcm (ln 0) (0 : Int64) = 0 by rw [lcm_z hb]; decide), Nat.gcd_zero_right]
  | succ n ih =>
    intro a b f h ha hb hf
    obtain ⟨f, rfl⟩ : ∃ g, f = g + 1 := ⟨f - 1, by omega⟩
    rw [lq2_s]
    have h : b = 0 ∨ euN n b (a % b) := h
    by_cases q : b = 0
    · subst q
      generalize lq2 f_X9_divisor_L6 f = K
      unfold f_X9_divisor_L6
      rw [if_pos (show lcm (ln 0) (0 : Int64) = 0 by rw [lcm_z hb]; decide), Nat.gcd_zero_right]
    · have h := h.resolve_left q
      have hm := Nat.mod_lt a (show b > 0 by omega)
      have ih := ih b (a % b) f h hb (by omega) (by omega)
      generalize lq2 f_X9_divisor_L6 f = K at ih ⊢
      unfold f_X9_divisor_L6
      rw [if_neg (show ¬ lcm (ln b) (0 : Int64) = 0 by rw [lcm_z hb, if_neg q]; decide), g_t (show ¬ ln b = 0 by rw [ln_0, ln_inj hb (by decide)]; exact q), nmq_q, lrm_ln ha hb (by omega), ih, gcd_s]
/-- one half of the fraction that is up over down -/
def frV (p : Int32) (u d : Nat) : Nat := if u = 0 ∨ d = 0 then (if p = 0 then 0 else 1) else (if p = 0 then u else d) / Nat.gcd u d
theorem c_part {p : Int32} {u d : Nat} (hu : u < 2 ^ 62) (hd : d < 2 ^ 62) : f_X8_partOfFraction (ln u) (ln d) p = some (ln (frV p u d)) := by
  unfold f_X8_partOfFraction frV
  rw [jq_q]
  have he : (if p = 0 then some (0 : Int64) else some (1 : Int64)) = some (ln (if p = 0 then 0 else 1)) := by
    by_cases q : p = 0
    · rw [if_pos q, if_pos q]; rfl
    · rw [if_neg q, if_neg q]; rfl
  by_cases q1 : u = 0
  · rw [if_pos (show lcm (ln u) (0 : Int64) ≤ 0 by rw [lcm_z (by omega), if_pos q1]; decide), if_pos (Or.inl q1)]; exact he
  rw [if_neg (show ¬ lcm (ln u) (0 : Int64) ≤ 0 by rw [lcm_z (by omega), if_neg q1]; decide)]
  by_cases q2 : d = 0
  · rw [if_neg (show ¬ 0 < lcm (ln d) (0 : Int64) by rw [lcm_z (by omega), if_pos q2]; decide), if_pos (Or.inr q2)]; exact he
  have hg0 : 0 < Nat.gcd u d := Nat.gcd_pos_of_pos_left _ (by omega)
  have hg1 : Nat.gcd u d ≤ u := Nat.gcd_le_left _ (by omega)
  have g1 := c_gcdL (2 * 62) u d FU 0 (eu_ok 62 u d hd) (by omega) (by omega) (by rw [FU_eq]; omega) (by omega)
  have g1' : lq3 f_X8_commonDivisor_L9 FU (ln u) (ln d) (0 : Int32) = _ := g1
  rw [if_pos (show 0 < lcm (ln d) (0 : Int64) by rw [lcm_z (by omega), if_neg q2]; decide), if_neg (show ¬ (u = 0 ∨ d = 0) by omega)]
  unfold f_X8_commonDivisor
  rw [g1', b_s1, b_s1, nmq_q, if_neg (show ¬ lcm (ln (Nat.gcd u d)) (0 : Int64) ≤ 0 by rw [lcm_z (by omega), if_neg (by omega)]; decide), g_t (show ¬ ln (Nat.gcd u d) = 0 by rw [ln_0, ln_inj (by omega) (by decide)]; omega)]
  by_cases q : p = 0
  · rw [if_pos q, if_pos q, ln_div (by omega) (by omega)]
  · rw [if_neg q, if_neg q, ln_div (by omega) (by omega)]
theorem m_part {p : Int32} {u d : Nat} (hu : u < 2 ^ 62) (hd : d < 2 ^ 62) (h0 : 0 < d) : f_X9_partOf (ln u) (ln d) p = some (ln (frV p u d)) := by
  unfold f_X9_partOf frV
  have hg0 : 0 < Nat.gcd u d := Nat.gcd_pos_of_pos_right _ (by omega)
  have hg1 : Nat.gcd u d ≤ d := Nat.gcd_le_right _ (by omega)
  have g1 := m_gcdL (2 * 62) u d FU (eu_ok 62 u d hd) (by omega) (by omega) (by rw [FU_eq]; omega)
  unfold f_X9_divisor
  rw [nmq_q, g1, b_s1, b_s1, g_t (show ¬ ln (Nat.gcd u d) = 0 by rw [ln_0, ln_inj (by omega) (by decide)]; omega)]
  by_cases q1 : u = 0
  · subst q1
    rw [if_pos (Or.inl rfl), Nat.gcd_zero_left]
    by_cases q : p = 0
    · rw [if_pos q, if_pos q, ln_div (by omega) (by omega), Nat.zero_div]
    · rw [if_neg q, if_neg q, ln_div (by omega) (by omega), Nat.div_self h0]
  rw [if_neg (show ¬ (u = 0 ∨ d = 0) by omega)]
  by_cases q : p = 0
  · rw [if_pos q, if_pos q, ln_div (by omega) (by omega)]
  · rw [if_neg q, if_neg q, ln_div (by omega) (by omega)]

def sumP (g : Nat → Int) : Nat → Nat → Int
  | 0, _ => 0
  | d + 1, k => g k + sumP g d (k + 1)
theorem sumP_b {g : Nat → Int} {B : Int} : ∀ d k, (∀ i, k ≤ i → i < k + d → 0 ≤ g i ∧ g i ≤ B) → 0 ≤ sumP g d k ∧ sumP g d k ≤ B * d
  | 0, k, _ => ⟨Int.le_refl _, by show (0 : Int) ≤ B * ((0 : Nat) : Int); rw [Int.natCast_zero, Int.mul_zero]; exact Int.le_refl _⟩
  | d + 1, k, h => by
    have h1 := h k (by omega) (by omega)
    have h2 := sumP_b d (k + 1) (fun i a b => h i (by omega) (by omega))
    have h3 : B * ((d + 1 : Nat) : Int) = B * d + B := by rw [Int.natCast_add, Int.mul_add]; omega
    show 0 ≤ g k + sumP g d (k + 1) ∧ g k + sumP g d (k + 1) ≤ _
    omega
def natP (F : List Fr) (s : Nat → Int) (i : Nat) : Int := natV F s (ag (bgs F s F.length) i) (nxt (bgs F s F.length) F.length i)
theorem c_natL {F : List Fr} (hk : okFs F) {s : Nat → Int} (hs : okS s) (hsome : (bst F s F.length).isSome = true) : ∀ (d f k : Nat) (x : Int) (M : Mem), k + d = (bgs F s F.length).length → d < f → cFr M F → cMs M s → cSol M F s →
    ∃ M', lq3 f_X6_naturalOfAll_L4 f (iz x) (iz (k : Int)) M = some (iz (x + sumP (natP F s) d k), M') ∧ sameOn (fun k => k ≠ 127) M M' := by
  have hl := hk.1
  have hbl := bgs_len' hsome
  intro d
  induction d with
  | zero =>
    intro f k x M e1 e2 hF hm hS
    obtain ⟨f, rfl⟩ : ∃ g, f = g + 1 := ⟨f - 1, by omega⟩
    refine ⟨M, ?_, sameOn.rf⟩
    rw [lq3_s]
    generalize lq3 f_X6_naturalOfAll_L4 f = K
    unfold f_X6_naturalOfAll_L4
    rw [hS.n hsome, if_pos (le_cnt (by omega) (by omega))]
    show _ = some (iz (x + 0), M)
    rw [Int.add_zero]
  | succ d ih =>
    intro f k x M e1 e2 hF hm hS
    obtain ⟨f, rfl⟩ : ∃ g, f = g + 1 := ⟨f - 1, by omega⟩
    obtain ⟨o1, o2, o3⟩ := lnB hsome (i := k) (by omega)
    obtain ⟨M1, s1, s2, s3, s4⟩ := c_showA hk hs hF hm hS hsome (i := k) (by omega)
    have e5 : gi M1 127 4 = iz (natP F s k) := (s2.2.2.2.2.2 o1).2.2.1
    obtain ⟨M', r1, r2⟩ := ih f (k + 1) (x + natP F s k) M1 (by omega) (by omega) (hF.same (s4.mono (fun a ha => by omega))) s3 (hS.same s4)
    refine ⟨M', ?_, s4.tr r2⟩
    rw [lq3_s]
    generalize lq3 f_X6_naturalOfAll_L4 f = K at r1 ⊢
    unfold f_X6_naturalOfAll_L4
    rw [hS.n hsome, if_neg (nle_cnt (by omega) (by omega)), s1, b_s1, e5, nmq_q, nmq_q, iz_s, iz_add, r1, Int.add_assoc]; rfl
theorem m_natL {v : PV} (hv : okV v) {M : Mem} {F : List Fr} (hk : okFs F) (hm : mPar (rdNow M) v) (hF : mFr M F) (hS : mSol M F v.2.2.2) (hsome : (bst F v.2.2.2 F.length).isSome = true) : ∀ (d f k : Nat) (x : Int), k + d = (bgs F v.2.2.2 F.length).length → d < f → lq2 (f_X9_mean_L30 M) f (iz x) (iz (k : Int)) = some (iz (x + sumP (natP F v.2.2.2) d k)) := by
  have hl := hk.1
  have hbl := bgs_len' hsome
  intro d
  induction d with
  | zero =>
    intro f k x e1 e2
    obtain ⟨f, rfl⟩ : ∃ g, f = g + 1 := ⟨f - 1, by omega⟩
    rw [lq2_s]
    generalize lq2 (f_X9_mean_L30 M) f = K
    unfold f_X9_mean_L30
    rw [hS.n hsome, if_pos (le_cnt (by omega) (by omega))]
    show _ = some (iz (x + 0))
    rw [Int.add_zero]
  | succ d ih =>
    intro f k x e1 e2
    obtain ⟨f, rfl⟩ : ∃ g, f = g + 1 := ⟨f - 1, by omega⟩
    obtain ⟨o1, o2, o3⟩ := lnB hsome (i := k) (by omega)
    obtain ⟨t1, t2⟩ := hS.atA hk hsome (i := k) (by omega)
    have ew : f_X9_natural (iz (ag (bgs F v.2.2.2 F.length) k : Int)) (iz (nxt (bgs F v.2.2.2 F.length) F.length k : Int)) M = some (iz (natP F v.2.2.2 k)) := mFr.nat hv hm hF hk o1 o2
    have ih := ih f (k + 1) (x + natP F v.2.2.2 k) (by omega) (by omega)
    rw [lq2_s]
    generalize lq2 (f_X9_mean_L30 M) f = K at ih ⊢
    unfold f_X9_mean_L30
    rw [hS.n hsome, if_neg (nle_cnt (by omega) (by omega)), iz_s, g_t (inB_n (by omega) (by omega)), g_t (inB_n (by omega) (by omega)), clN (by omega), clN (by omega), t1, t2, ew, b_s1, nmq_q, nmq_q, iz_add, ih, Int.add_assoc]; rfl
/-- what mean answers -/
def meaV (F : List Fr) (s : Nat → Int) (p : Int32) : Nat := if cntV F s ≤ 0 then (if p = 0 then 0 else 1) else frV p (sumP (natP F s) (bgs F s F.length).length 0).toNat (bgs F s F.length).length
theorem op_mean {M : Mem} (hI : Inv M) (p : Int32) : bothL M (f_X8_mean p) (f_X9_mean p) := by
  obtain ⟨y, y1, y2, hy⟩ := iz_ex p
  have eo : f_X8_isOther p (2 : Int32) = _ := hy ▸ c_isOther (z := y) (n := 2) y1 y2 (by omega) (by omega)
  have ei : f_X9_isIn p (0 : Int32) (1 : Int32) = _ := hy ▸ m_isIn (z := y) (lo := 0) (hi := 1) y1 y2 (by omega) (by omega) (by omega) (by omega)
  have kn2 : ∀ M', f_X9_lowestOf (-2 : Int32) M' = f_X9_lowestOf (iz (-((2 : Nat) : Int))) M' := fun _ => rfl
  have kc2 : ∀ M', f_X8_refuseLong (-2 : Int32) M' = f_X8_refuseLong (iz (-((2 : Nat) : Int))) M' := fun _ => rfl
  by_cases q3 : 0 ≤ y ∧ y < 2
  case neg =>
    rw [if_neg q3] at eo
    rw [if_neg (show ¬ (0 ≤ y ∧ y ≤ 1) by omega)] at ei
    refine bothL_no hI (v := 2) (by omega) ?_ (fun M' => ?_)
    · simp (decide := true) only [f_X8_mean, eo, b_s1, if_false, b2_id]; exact kc2 _
    · simp (decide := true) only [f_X9_mean, ei, b_s1, if_true, b2_id]; exact kn2 _
  rw [if_pos q3] at eo
  rw [if_pos (show 0 ≤ y ∧ y ≤ 1 by omega)] at ei
  have hp : p.toInt64 = ln (if p = 0 then 0 else 1) := by
    have : y = 0 ∨ y = 1 := by omega
    rcases this with t | t
    · subst t; rw [hy]; rfl
    · subst t; rw [hy]; rfl
  have hI' := hI
  obtain ⟨now, img, st, ct, hist, ls, rw_, R, hg, hC, hM⟩ := hI
  have hv := hg.1.1
  have hs := hv.2.2.2.2.2
  have hk : okFs (frs now 0 now.1) := frs_okFs hv (fun q hq => hq) (Nat.le_refl _)
  have hl := hk.1
  have hb := cntV_b hk (s := now.2.2.2)
  obtain ⟨Mc, r1, r2, r3, r4, r5⟩ := c_set (p := 1) (Or.inl rfl) hv hC.1 (g := 0) (by omega)
  rw [leftW_0] at r1 r2 r3
  have r1' : f_X6_set 1 (0 : Int32) M = _ := r1
  have k5 : keepC M Mc := keepC.of (r5.mono (fun a ha => by omega))
  have hf0 : frV p 0 0 = (if p = 0 then 0 else 1) := by unfold frV; rw [if_pos (Or.inl rfl)]
  cases hbs : bst (frs now 0 now.1) now.2.2.2 (frs now 0 now.1).length with
  | none =>
    have hc9 := hb.2.2.mpr hbs
    have em : meaV (frs now 0 now.1) now.2.2.2 p = (if p = 0 then 0 else 1) := by unfold meaV; rw [if_pos (by omega)]
    refine bothL_askR hI' (r := ln (meaV (frs now 0 now.1) now.2.2.2 p)) ?_ (fun M' hs' => ?_)
    · have e3 : gi Mc 126 3 = iz ((0 : Nat) : Int) := by rw [r2.2.1, hbs]; rfl
      refine ⟨Mc, k5, ?_⟩
      have e4 : f_X6_naturalOfAll Mc = some ((0 : Int32), Mc) := by
        unfold f_X6_naturalOfAll
        obtain ⟨f, hf⟩ : ∃ g, FU = g + 1 := ⟨FU - 1, by rw [FU_eq]⟩
        rw [hf, lq3_s]
        generalize lq3 f_X6_naturalOfAll_L4 f = K
        unfold f_X6_naturalOfAll_L4
        rw [e3, if_pos (show iz ((0 : Nat) : Int) ≤ (0 : Int32) by decide), b_s2]
      unfold f_X8_mean
      rw [eo, b_s1, if_pos rfl, r1', b_s2, e4, b_s2, e3, em, ← hf0]
      show bq1 (f_X8_partOfFraction (ln 0) (ln 0) p) _ = _
      rw [c_part (by decide) (by decide), b_s1]
    · have hm := (hM.same hg hs').1
      obtain ⟨M2, f1, f2, f3, f4⟩ := m_find hv hm
      refine ⟨M2, f4.keep.toR, ?_⟩
      unfold f_X9_mean
      rw [ei, b_s1, if_neg (by decide), f1, b_s2, f2.1, hc9, if_neg (by decide), hp, em]
  | some o =>
    have hsome : (bst (frs now 0 now.1) now.2.2.2 (frs now 0 now.1).length).isSome = true := by rw [hbs]; rfl
    have hbl := bgs_len' hsome
    have ec : cntV (frs now 0 now.1) now.2.2.2 = ((bgs (frs now 0 now.1) now.2.2.2 (frs now 0 now.1).length).length : Int) := by unfold cntV; rw [hbs]
    have hsb := sumP_b (g := natP (frs now 0 now.1) now.2.2.2) (B := 20000) (bgs (frs now 0 now.1) now.2.2.2 (frs now 0 now.1).length).length 0 (fun i _ h2 => by
      obtain ⟨o1, o2, o3⟩ := lnB hsome (i := i) (by omega)
      exact natV_b hk hs o1 o2)
    refine bothL_askR hI' (r := ln (meaV (frs now 0 now.1) now.2.2.2 p)) ?_ (fun M' hs' => ?_)
    · obtain ⟨M2, t1, t2⟩ := c_natL hk hs hsome (bgs (frs now 0 now.1) now.2.2.2 (frs now 0 now.1).length).length FU 0 0 Mc (by omega) (by rw [FU_eq]; omega) r3 r4 r2
      have t1' : lq3 f_X6_naturalOfAll_L4 FU (0 : Int32) (0 : Int32) Mc = _ := t1
      refine ⟨M2, k5.tr (keepC.of (t2.mono (fun a ha => by omega))), ?_⟩
      have e4 : gi M2 126 3 = iz ((bgs (frs now 0 now.1) now.2.2.2 (frs now 0 now.1).length).length : Int) := by rw [(t2 126 (by omega)).1]; exact r2.n hsome
      unfold f_X8_mean
      rw [eo, b_s1, if_pos rfl, r1', b_s2]
      unfold f_X6_naturalOfAll
      rw [t1', b_s2, b_s2, e4, Int.zero_add, iz_ln (by omega) (by omega), iz_ln (by omega) (by omega), Int.toNat_natCast, c_part (by omega) (by omega), b_s1]
      unfold meaV
      by_cases c0 : cntV (frs now 0 now.1) now.2.2.2 ≤ 0
      · rw [if_pos c0]
        have : (bgs (frs now 0 now.1) now.2.2.2 (frs now 0 now.1).length).length = 0 := by omega
        rw [this]
        unfold frV
        rw [if_pos (Or.inr rfl)]
      · rw [if_neg c0]
    · have hm := (hM.same hg hs').1
      obtain ⟨M2, f1, f2, f3, f4⟩ := m_find hv hm
      have hm2 := f4.par hv hm
      refine ⟨M2, f4.keep.toR, ?_⟩
      unfold f_X9_mean
      rw [ei, b_s1, if_neg (by decide), f1, b_s2, f2.1]
      unfold meaV
      by_cases c0 : cntV (frs now 0 now.1) now.2.2.2 ≤ 0
      · rw [if_pos c0, if_neg (fun t => by have := (iz_lt (a := 0) (by omega) (by omega) (by omega) (by omega)).mp (show iz 0 < _ from t); omega), hp]
      · have t1 := m_natL hv hk hm2 f3 f2 hsome (bgs (frs now 0 now.1) now.2.2.2 (frs now 0 now.1).length).length FU 0 0 (by omega) (by rw [FU_eq]; omega)
        have t1' : lq2 (f_X9_mean_L30 M2) FU (0 : Int32) (0 : Int32) = _ := t1
        rw [if_neg c0, if_pos (show (0 : Int32) < iz (cntV (frs now 0 now.1) now.2.2.2) from lt_iz (a := 0) (by omega) (by omega) (by omega) (by omega) (by omega)), t1', b_s1, Int.zero_add, ec, iz_ln (by omega) (by omega), iz_ln (by omega) (by omega), Int.toNat_natCast, m_part (by omega) (by omega) (by omega), b_s1]
