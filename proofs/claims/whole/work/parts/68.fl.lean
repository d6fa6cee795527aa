/-! floats: magnitudes in units of the least number, sign, order -/
abbrev fval (x : UInt32) : FP.Core.Datum := FP.Core.val32 x
def uz (x : UInt32) : Nat := FP.Core.zmag FP.Core.b32 (fval x)
def zv (x : UInt32) : Int := FP.Core.zval FP.Core.b32 (fval x)
/-- finite, with the sign + -/
def nn (x : UInt32) : Prop := ∃ c q, fval x = .fin false c q
theorem nn_ne {x : UInt32} (h : nn x) : fval x ≠ .nan := by
  obtain ⟨c, q, e⟩ := h; rw [e]; exact FP.Core.Datum.noConfusion
theorem nN_of {x : UInt32} (h : fval x ≠ .nan) : nN x := by
  have h1 := (FP.Core.ne_nan32 x).mp h
  show x &&& 0x7fffffff ≤ 0x7f800000
  rw [UInt32.le_iff_toNat_le, UInt32.toNat_and]
  have e : x.toNat &&& (0x7fffffff : UInt32).toNat = x.toNat % 2 ^ 31 := Nat.and_two_pow_sub_one_eq_mod x.toNat 31
  rw [e]; exact h1
theorem zv_nn {x : UInt32} (h : nn x) : zv x = (uz x : Int) := by
  obtain ⟨c, q, e⟩ := h
  unfold zv uz FP.Core.zval
  rw [e]; rfl
def cmp3 (a b : Int) : Int32 := if a < b then -1 else if a = b then 0 else 1
theorem fc_val {x y : UInt32} (hx : fval x ≠ .nan) (hy : fval y ≠ .nan) : fcg x y = cmp3 (zv x) (zv y) ∧ fcl x y = cmp3 (zv x) (zv y) := by
  have e : FP.fcmp x y = some (compare (zv x) (zv y)) := FP.Core.fcmp_zval hx hy
  unfold fcg fcl cmp3
  rw [e, FP.Core.compare_ite]
  by_cases h : zv x < zv y
  · rw [if_pos h, if_pos h]; exact ⟨rfl, rfl⟩
  · rw [if_neg h, if_neg h]
    by_cases h2 : zv x = zv y
    · rw [if_pos h2, if_pos h2]; exact ⟨rfl, rfl⟩
    · rw [if_neg h2, if_neg h2]; exact ⟨rfl, rfl⟩
theorem cmp3_lt {a b : Int} : cmp3 a b < 0 ↔ a < b := by
  unfold cmp3
  by_cases h : a < b
  · rw [if_pos h]; exact ⟨fun _ => h, fun _ => by decide⟩
  · rw [if_neg h]
    by_cases h2 : a = b
    · rw [if_pos h2]; exact ⟨fun t => absurd t (by decide), fun t => absurd t h⟩
    · rw [if_neg h2]; exact ⟨fun t => absurd t (by decide), fun t => absurd t h⟩
theorem cmp3_gt {a b : Int} : 0 < cmp3 a b ↔ b < a := by
  unfold cmp3
  by_cases h : a < b
  · rw [if_pos h]; exact ⟨fun t => absurd t (by decide), fun t => by omega⟩
  · rw [if_neg h]
    by_cases h2 : a = b
    · rw [if_pos h2]; exact ⟨fun t => absurd t (by decide), fun t => by omega⟩
    · rw [if_neg h2]; exact ⟨fun _ => by omega, fun _ => by decide⟩
theorem cmp3_ge {a b : Int} : 0 ≤ cmp3 a b ↔ b ≤ a := by
  unfold cmp3
  by_cases h : a < b
  · rw [if_pos h]; exact ⟨fun t => absurd t (by decide), fun t => by omega⟩
  · rw [if_neg h]
    by_cases h2 : a = b
    · rw [if_pos h2]; exact ⟨fun _ => by omega, fun _ => by decide⟩
    · rw [if_neg h2]; exact ⟨fun _ => by omega, fun _ => by decide⟩
theorem cmp3_le {a b : Int} : cmp3 a b ≤ 0 ↔ a ≤ b := by
  unfold cmp3
  by_cases h : a < b
  · rw [if_pos h]; exact ⟨fun _ => by omega, fun _ => by decide⟩
  · rw [if_neg h]
    by_cases h2 : a = b
    · rw [if_pos h2]; exact ⟨fun _ => by omega, fun _ => by decide⟩
    · rw [if_neg h2]; exact ⟨fun t => absurd t (by decide), fun t => by omega⟩
theorem cmp3_eq {a b : Int} : cmp3 a b = 0 ↔ a = b := by
  unfold cmp3
  by_cases h : a < b
  · rw [if_pos h]; exact ⟨fun t => absurd t (by decide), fun t => by omega⟩
  · rw [if_neg h]
    by_cases h2 : a = b
    · rw [if_pos h2]; exact ⟨fun _ => h2, fun _ => rfl⟩
    · rw [if_neg h2]; exact ⟨fun t => absurd t (by decide), fun t => absurd t h2⟩
/-- the number 2 ^ k of units -/
def Vp (k : Nat) : FP.Core.Datum := .fin false (2 ^ 23) ((k : Int) - 172)
theorem Vp_fits {k : Nat} (h1 : 23 ≤ k) (h2 : k ≤ 276) : FP.Core.fits FP.Core.b32 (Vp k) := by
  refine ⟨by decide, ?_, ?_, Or.inr (by decide)⟩
  · rw [FP.Core.qmin_b32]; omega
  · show (k : Int) - 172 ≤ FP.Core.b32.qmax
    rw [show FP.Core.b32.qmax = 104 by decide]; omega
theorem Vp_mag {k : Nat} (h1 : 23 ≤ k) : FP.Core.zmag FP.Core.b32 (Vp k) = 2 ^ k := by
  show 2 ^ 23 * 2 ^ ((k : Int) - 172 - FP.Core.b32.qmin).toNat = 2 ^ k
  rw [FP.Core.qmin_b32, ← Nat.pow_add]; congr 1; omega
/-- what is rounded to a number that is not above a finite one -/
theorem rr_le {x : UInt32} {s : Bool} {A B : Nat} {e e0 : Int} {c : Nat} {q : Int} (hx : fval x = FP.Core.roundRatio FP.Core.b32 s A B e) (hB : 0 < B) (hV : FP.Core.fits FP.Core.b32 (.fin false c q)) (h0 : e0 ≤ -149) (h0e : e0 ≤ e)
    (h : FP.Core.inUnits A e e0 ≤ FP.Core.zmag FP.Core.b32 (.fin false c q) * 2 ^ (-149 - e0).toNat * B) : (∃ c' q', fval x = .fin s c' q') ∧ uz x ≤ FP.Core.zmag FP.Core.b32 (.fin false c q) := by
  have hq : FP.Core.b32.qmin = -149 := FP.Core.qmin_b32
  have hle := FP.Core.zmag_roundRatio_le FP.Core.good_b32 (s := s) (A := A) hB hV FP.Core.Datum.noConfusion (by rw [hq]; exact h0) h0e (by rw [hq]; exact h)
  have htop := FP.Core.zmag_lt_top FP.Core.good_b32 hV
  rw [← hx] at hle
  refine ⟨?_, hle⟩
  rcases FP.Core.roundRatio_cases FP.Core.b32 s A B e with ⟨c', q', hc⟩ | hc
  · have hs := FP.Core.sgn_roundRatio FP.Core.b32 s A B e
    rw [hc] at hs
    have hs : s = s := hs
    exact ⟨c', q', hx.trans (by rw [hc])⟩
  · exfalso
    rw [hx, hc] at hle
    have hle : FP.Core.b32.tails * 2 ^ (FP.Core.b32.exps - 2) ≤ FP.Core.inUnits c q FP.Core.b32.qmin := hle
    omega
theorem rr_ge {x : UInt32} {s : Bool} {A B : Nat} {e e0 : Int} {V : FP.Core.Datum} (hx : fval x = FP.Core.roundRatio FP.Core.b32 s A B e) (hB : 0 < B) (hV : FP.Core.fits FP.Core.b32 V) (h0 : e0 ≤ -149) (h0e : e0 ≤ e)
    (h : FP.Core.zmag FP.Core.b32 V * 2 ^ (-149 - e0).toNat * B ≤ FP.Core.inUnits A e e0) : FP.Core.zmag FP.Core.b32 V ≤ uz x := by
  have hq : FP.Core.b32.qmin = -149 := FP.Core.qmin_b32
  have := FP.Core.zmag_roundRatio_ge FP.Core.good_b32 (s := s) (A := A) hB hV (by rw [hq]; exact h0) h0e (by rw [hq]; exact h)
  rw [← hx] at this; exact this
theorem add_ex {a b : UInt32} (ha : nn a) (hb : nn b) : ∃ n e, fval (FP.fadd a b) = FP.Core.roundRatio FP.Core.b32 false n 1 e ∧ -149 ≤ e ∧ FP.Core.inUnits n e (-149) = uz a + uz b := by
  obtain ⟨c, q, ea⟩ := ha
  obtain ⟨d, r, eb⟩ := hb
  have fa := FP.Core.val32_fits a
  have fb := FP.Core.val32_fits b
  have e0 : fval (FP.fadd a b) = FP.Core.round FP.Core.b32 (FP.Core.exactSum (fval a) (fval b)) := FP.Core.val32_fadd a b
  have fa' : FP.Core.fits FP.Core.b32 (.fin false c q) := ea ▸ fa
  have fb' : FP.Core.fits FP.Core.b32 (.fin false d r) := eb ▸ fb
  obtain ⟨sg, n, e, h1, h2, h3⟩ := FP.Core.sum_units fa' fb'
  have hq : FP.Core.b32.qmin = -149 := FP.Core.qmin_b32
  have hsg : sg = false := by
    have h4 : FP.Core.exactSum (.fin false c q) (.fin false d r) = .fin (FP.Core.sumSign false false (FP.Core.sumUnits false c q false d r (min q r))) (FP.Core.sumUnits false c q false d r (min q r)).natAbs (min q r) := rfl
    rw [h1] at h4
    have h5 : sg = FP.Core.sumSign false false (FP.Core.sumUnits false c q false d r (min q r)) := by injection h4
    have h6 : 0 ≤ FP.Core.sumUnits false c q false d r (min q r) := by
      show 0 ≤ ((FP.Core.inUnits c q (min q r) : Nat) : Int) + ((FP.Core.inUnits d r (min q r) : Nat) : Int)
      omega
    rw [h5]
    unfold FP.Core.sumSign
    by_cases h7 : FP.Core.sumUnits false c q false d r (min q r) = 0
    · rw [if_pos h7]; rfl
    · rw [if_neg h7]; exact decide_eq_false (by omega)
  rw [hsg] at h1 h3
  have e1 : uz a = FP.Core.zmag FP.Core.b32 (.fin false c q) := by unfold uz; rw [ea]
  have e2 : uz b = FP.Core.zmag FP.Core.b32 (.fin false d r) := by unfold uz; rw [eb]
  refine ⟨n, e, ?_, by rw [← hq]; exact h2, ?_⟩
  · rw [e0, ea, eb, h1]; rfl
  · rw [e1, e2, ← hq]
    have h8 : ((FP.Core.inUnits n e FP.Core.b32.qmin : Nat) : Int) = ((FP.Core.zmag FP.Core.b32 (.fin false c q) : Nat) : Int) + ((FP.Core.zmag FP.Core.b32 (.fin false d r) : Nat) : Int) := h3
    omega
theorem mul_ex {a b : UInt32} (ha : nn a) (hb : nn b) : ∃ n e, fval (FP.fmul a b) = FP.Core.roundRatio FP.Core.b32 false n 1 e ∧ -298 ≤ e ∧ FP.Core.inUnits n e (-298) = uz a * uz b := by
  obtain ⟨c, q, ea⟩ := ha
  obtain ⟨d, r, eb⟩ := hb
  have fa' : FP.Core.fits FP.Core.b32 (.fin false c q) := ea ▸ FP.Core.val32_fits a
  have fb' : FP.Core.fits FP.Core.b32 (.fin false d r) := eb ▸ FP.Core.val32_fits b
  have e0 : fval (FP.fmul a b) = FP.Core.round FP.Core.b32 (FP.Core.exactProduct (fval a) (fval b)) := FP.Core.val32_fmul a b
  obtain ⟨h1, h2, h3⟩ := FP.Core.product_units fa' fb'
  have hq : FP.Core.b32.qmin = -149 := FP.Core.qmin_b32
  rw [hq] at h2 h3
  have e1 : uz a = FP.Core.zmag FP.Core.b32 (.fin false c q) := by unfold uz; rw [ea]
  have e2 : uz b = FP.Core.zmag FP.Core.b32 (.fin false d r) := by unfold uz; rw [eb]
  refine ⟨c * d, q + r, ?_, by omega, ?_⟩
  · rw [e0, ea, eb, h1]; rfl
  · rw [e1, e2]; exact h3
theorem add_le {a b : UInt32} (ha : nn a) (hb : nn b) {c : Nat} {q : Int} (hV : FP.Core.fits FP.Core.b32 (.fin false c q)) (h : uz a + uz b ≤ FP.Core.zmag FP.Core.b32 (.fin false c q)) : nn (FP.fadd a b) ∧ uz (FP.fadd a b) ≤ FP.Core.zmag FP.Core.b32 (.fin false c q) := by
  obtain ⟨n, e, h1, h2, h3⟩ := add_ex ha hb
  exact rr_le h1 (by omega) hV (by omega) h2 (by rw [h3]; show _ ≤ _ * 2 ^ 0 * 1; rw [Nat.pow_zero, Nat.mul_one, Nat.mul_one]; exact h)
theorem add_p {a b : UInt32} (ha : nn a) (hb : nn b) {k : Nat} (h1 : 23 ≤ k) (h2 : k ≤ 275) (h3 : uz a ≤ 2 ^ k) (h4 : uz b ≤ 2 ^ k) : nn (FP.fadd a b) ∧ uz (FP.fadd a b) ≤ 2 ^ (k + 1) := by
  have e := Vp_mag (k := k + 1) (by omega)
  have := add_le ha hb (Vp_fits (k := k + 1) (by omega) (by omega)) (by show _ ≤ FP.Core.zmag FP.Core.b32 (Vp (k + 1)); rw [e, Nat.pow_succ]; omega)
  refine ⟨this.1, ?_⟩
  rw [← e]; exact this.2
theorem mul_p {a b : UInt32} (ha : nn a) (hb : nn b) {i j k : Nat} (hk : i + j = k + 149) (h1 : 23 ≤ k) (h2 : k ≤ 276) (h3 : uz a ≤ 2 ^ i) (h4 : uz b ≤ 2 ^ j) : nn (FP.fmul a b) ∧ uz (FP.fmul a b) ≤ 2 ^ k := by
  obtain ⟨n, e, g1, g2, g3⟩ := mul_ex ha hb
  have ev := Vp_mag (k := k) h1
  have := rr_le g1 (by omega) (Vp_fits (k := k) h1 h2) (e0 := -298) (by omega) g2 (by
    rw [g3]
    show _ ≤ FP.Core.zmag FP.Core.b32 (Vp k) * 2 ^ 149 * 1
    rw [ev, Nat.mul_one, ← Nat.pow_add, ← hk, Nat.pow_add]
    exact Nat.mul_le_mul h3 h4)
  refine ⟨this.1, ?_⟩
  rw [← ev]; exact this.2
theorem mul_g {a b : UInt32} (ha : nn a) (hb : nn b) {i j k : Nat} (hk : i + j = k + 149) (h1 : 23 ≤ k) (h2 : k ≤ 276) (h3 : 2 ^ i ≤ uz a) (h4 : 2 ^ j ≤ uz b) : 2 ^ k ≤ uz (FP.fmul a b) := by
  obtain ⟨n, e, g1, g2, g3⟩ := mul_ex ha hb
  have ev := Vp_mag (k := k) h1
  rw [← ev]
  refine rr_ge g1 (by omega) (Vp_fits (k := k) h1 h2) (e0 := -298) (by omega) g2 ?_
  rw [g3, ev]
  show 2 ^ k * 2 ^ 149 * 1 ≤ _
  rw [Nat.mul_one, ← Nat.pow_add, ← hk, Nat.pow_add]
  exact Nat.mul_le_mul h3 h4
theorem add_g {a b : UInt32} (ha : nn a) (hb : nn b) {k : Nat} (h1 : 23 ≤ k) (h2 : k ≤ 276) (h3 : 2 ^ k ≤ uz a + uz b) : 2 ^ k ≤ uz (FP.fadd a b) := by
  obtain ⟨n, e, g1, g2, g3⟩ := add_ex ha hb
  have ev := Vp_mag (k := k) h1
  rw [← ev]
  refine rr_ge g1 (by omega) (Vp_fits (k := k) h1 h2) (e0 := -149) (by omega) g2 ?_
  rw [g3, ev]
  show 2 ^ k * 2 ^ 0 * 1 ≤ _
  rw [Nat.mul_one, Nat.pow_zero, Nat.mul_one]; exact h3
/-- a whole number as a float -/
theorem i2f_ex {z : Int} (h1 : z.natAbs ≤ 2 ^ 24) : ∃ c q, fval (FP.i2f (iz z)) = .fin (decide (z < 0)) c q ∧ c * 2 ^ q.toNat = z.natAbs * 2 ^ (-q).toNat := by
  have ez : (iz z).toInt = z := iz_toInt (by omega) (by omega)
  have hw : FP.Core.FInt (iz z).toInt (FP.Core.i2f (iz z)) := FP.Core.i2f_int (by rw [ez]; exact h1)
  rw [ez] at hw
  have hs : FP.Core.sgn (fval (FP.i2f (iz z))) = decide (z < 0) := by
    have e : fval (FP.i2f (iz z)) = FP.Core.round FP.Core.b32 (FP.Core.ofInt (iz z).toInt) := FP.Core.val32_i2f (iz z)
    rw [e, ez]
    exact FP.Core.sgn_roundRatio _ _ _ _ _
  have hw : FP.Core.Whole z (fval (FP.i2f (iz z))) := hw
  generalize fval (FP.i2f (iz z)) = d at hw hs
  cases d with
  | nan => exact absurd hw (fun t => t)
  | inf s => exact absurd hw (fun t => t)
  | fin s c q =>
    have hs : s = decide (z < 0) := hs
    exact ⟨c, q, by rw [hs], FP.Core.whole_natAbs hw⟩
theorem i2f_p {z : Int} (h0 : 0 ≤ z) {k : Nat} (h1 : z ≤ 2 ^ k) (hk : k ≤ 24) : nn (FP.i2f (iz z)) ∧ uz (FP.i2f (iz z)) ≤ 2 ^ (k + 149) := by
  have hb : (2 : Nat) ^ k ≤ 2 ^ 24 := Nat.pow_le_pow_right (by omega) hk
  have h1' : z.natAbs ≤ 2 ^ k := by
    have : ((2 ^ k : Nat) : Int) = (2 : Int) ^ k := by simp
    omega
  have ez : (iz z).toInt = z := iz_toInt (by omega) (by omega)
  have e : fval (FP.i2f (iz z)) = FP.Core.roundRatio FP.Core.b32 (decide (z < 0)) z.natAbs 1 0 := by
    have : fval (FP.i2f (iz z)) = FP.Core.round FP.Core.b32 (FP.Core.ofInt (iz z).toInt) := FP.Core.val32_i2f (iz z)
    rw [this, ez]; rfl
  rw [show decide (z < 0) = false from decide_eq_false (by omega)] at e
  have ev := Vp_mag (k := k + 149) (by omega)
  have := rr_le e (by omega) (Vp_fits (k := k + 149) (by omega) (by omega)) (e0 := -149) (by omega) (by omega) (by
    show z.natAbs * 2 ^ 149 ≤ FP.Core.zmag FP.Core.b32 (Vp (k + 149)) * 2 ^ 0 * 1
    rw [ev, Nat.mul_one, Nat.pow_zero, Nat.mul_one, Nat.pow_add]
    exact Nat.mul_le_mul_right _ h1')
  refine ⟨this.1, ?_⟩
  rw [← ev]; exact this.2
theorem pow_bal {c A B d : Nat} {q r : Int} (h1 : c * 2 ^ q.toNat = A * 2 ^ (-q).toNat) (h2 : d * 2 ^ r.toNat = B * 2 ^ (-r).toNat) : c * B * 2 ^ (q - r - 0).toNat = A * d * 2 ^ (0 - (q - r)).toNat := by
  have h3 : c * 2 ^ q.toNat * (B * 2 ^ (-r).toNat) = A * 2 ^ (-q).toNat * (d * 2 ^ r.toNat) := by rw [h1, h2]
  have h4 : c * B * 2 ^ (q.toNat + (-r).toNat) = A * d * 2 ^ ((-q).toNat + r.toNat) := by
    rw [Nat.pow_add, Nat.pow_add]
    calc c * B * (2 ^ q.toNat * 2 ^ (-r).toNat) = c * 2 ^ q.toNat * (B * 2 ^ (-r).toNat) := by ac_rfl
      _ = A * 2 ^ (-q).toNat * (d * 2 ^ r.toNat) := h3
      _ = A * d * (2 ^ (-q).toNat * 2 ^ r.toNat) := by ac_rfl
  obtain ⟨m, hm1, hm2⟩ : ∃ m, q.toNat + (-r).toNat = (q - r - 0).toNat + m ∧ (-q).toNat + r.toNat = (0 - (q - r)).toNat + m := ⟨q.toNat + (-r).toNat - (q - r - 0).toNat, by omega, by omega⟩
  rw [hm1, hm2, Nat.pow_add, Nat.pow_add, ← Nat.mul_assoc, ← Nat.mul_assoc] at h4
  exact Nat.eq_of_mul_eq_mul_right (Nat.two_pow_pos m) h4
theorem div_ex {a b : Int} (ha : a.natAbs ≤ 2 ^ 24) (hb : 0 < b) (hb2 : b ≤ 16777216) : fval (FP.fdiv (FP.i2f (iz a)) (FP.i2f (iz b))) = FP.Core.roundRatio FP.Core.b32 (decide (a < 0)) a.natAbs b.natAbs 0 := by
  obtain ⟨c, q, e1, h1⟩ := i2f_ex ha
  obtain ⟨d, r, e2, h2⟩ := i2f_ex (z := b) (by omega)
  have e0 : fval (FP.fdiv (FP.i2f (iz a)) (FP.i2f (iz b))) = FP.Core.quotient FP.Core.b32 (fval (FP.i2f (iz a))) (fval (FP.i2f (iz b))) := FP.Core.val32_fdiv _ _
  have hd : d ≠ 0 := by
    intro h
    rw [h, Nat.zero_mul] at h2
    have h3 := Nat.mul_eq_zero.mp h2.symm
    have := Nat.two_pow_pos (-r).toNat
    omega
  rw [e0, e1, e2, show decide (b < 0) = false from decide_eq_false (by omega)]
  show (if d = 0 then _ else FP.Core.roundRatio FP.Core.b32 (decide (a < 0) != false) c d (q - r)) = _
  rw [if_neg hd, show (decide (a < 0) != false) = decide (a < 0) by cases decide (a < 0) <;> rfl]
  exact FP.Core.roundRatio_congr (by omega) (by omega) (pow_bal h1 h2)
theorem div_ne {a b : Int} (ha : a.natAbs ≤ 2 ^ 24) (hb : 0 < b) (hb2 : b ≤ 16777216) : fval (FP.fdiv (FP.i2f (iz a)) (FP.i2f (iz b))) ≠ .nan := by
  rw [div_ex ha hb hb2]; exact FP.Core.roundRatio_ne_nan _ _ _ _ _
