/-! a line: what it measures -/
def strV (s : Nat → Int) : Int := if s 8 = 5 then 2 * (s 2 + s 9) else if s 8 = 1 ∨ s 8 = 3 then s 2 + s 9 else s 2
def shrV (s : Nat → Int) : Int := if s 8 = 2 ∨ s 8 = 4 then (if s 1 ≤ s 3 then s 1 else s 3 + 1) else s 3
def penV (s : Nat → Int) : Int := if s 8 = 2 ∨ s 8 = 4 then s 5 / 2 else if s 8 = 5 then s 5 + s 9 else s 5
theorem strV_b {s : Nat → Int} (h : okS s) : 0 ≤ strV s ∧ strV s ≤ 36 := by
  obtain ⟨_, _, h2, _, _, _, _, _, _, h9⟩ := h
  unfold strV
  split
  · omega
  · split <;> omega
theorem shrV_b {s : Nat → Int} (h : okS s) : 0 ≤ shrV s ∧ shrV s ≤ s 1 ∧ shrV s ≤ 9 := by
  obtain ⟨_, h1, _, h3, _⟩ := h
  unfold shrV
  split
  · split <;> omega
  · omega
theorem penV_b {s : Nat → Int} (h : okS s) : 0 ≤ penV s ∧ penV s ≤ 108 := by
  obtain ⟨_, _, _, _, _, h5, _, _, _, h9⟩ := h
  unfold penV
  split
  · omega
  · split <;> omega
def gV (F : List Fr) (i j : Nat) : Int := (gS F (j - 1) : Int) - gS F i
def natV (F : List Fr) (s : Nat → Int) (i j : Nat) : Int := wS F j - wS F i + s 1 * gV F i j + (if fe F (j - 1) = 1 then 2 else 0)
def roomV (F : List Fr) (s : Nat → Int) (i j : Nat) : Int := gV F i j * (if s 0 - natV F s i j ≤ 0 then shrV s else strV s)
def ratV (F : List Fr) (s : Nat → Int) (i j : Nat) : UInt32 :=
  if s 0 - natV F s i j = 0 ∨ (0 < s 0 - natV F s i j ∧ 2 ≤ fe F (j - 1)) then FP.fconst0
  else if roomV F s i j = 0 then (if s 0 - natV F s i j ≤ 0 then (3267756032 : UInt32) else (1120272384 : UInt32))
  else FP.fdiv (FP.i2f (iz (s 0 - natV F s i j))) (FP.i2f (iz (roomV F s i j)))
def looV (s : Nat → Int) : UInt32 := FP.fdiv (FP.i2f (iz (s 4))) (1082130432 : UInt32)
def fitV (F : List Fr) (s : Nat → Int) (i j : Nat) : Bool := decide (zv (3212836864 : UInt32) ≤ zv (ratV F s i j) ∧ zv (ratV F s i j) ≤ zv (looV s))
def unsV (r : UInt32) : UInt32 := if 0 ≤ zv r then r else FP.fneg r
def badV (r : UInt32) : UInt32 := FP.fmul (FP.fmul (FP.fmul (unsV r) (unsV r)) (unsV r)) (1120403456 : UInt32)
def widB (F : List Fr) (i j : Nat) : Bool := decide (2 ≤ fe F (j - 1) ∧ fn F i = fn F (j - 1) ∧ 0 < i ∧ fe F (i - 1) < 2)
def costV (F : List Fr) (s : Nat → Int) (j : Nat) : UInt32 := if fe F (j - 1) = 1 then FP.i2f (iz (penV s)) else FP.fconst0
def manV (s : Nat → Int) (x p : UInt32) : UInt32 := if s 7 = 0 then FP.fadd (FP.fmul x x) (FP.fmul p p) else if s 7 = 1 then FP.fmul (FP.fadd x p) (FP.fadd x p) else FP.fadd x p
def hypV (F : List Fr) (i j : Nat) (x : UInt32) : UInt32 := if fe F (j - 1) = 1 ∧ 0 < i ∧ fe F (i - 1) = 1 then FP.fadd x (1161527296 : UInt32) else x
def demV (F : List Fr) (s : Nat → Int) (i j : Nat) : UInt32 :=
  let x := hypV F i j (manV s (FP.fadd FP.fconst1 (badV (ratV F s i j))) (costV F s j))
  if widB F i j = true then FP.fadd x (FP.i2f (iz (1000 * s 6))) else x
/-! sums stay small -/
def okFs (F : List Fr) : Prop := F.length ≤ 160 ∧ ∀ f ∈ F, okF f
theorem fw_b {F : List Fr} (h : okFs F) (i : Nat) : 0 ≤ fw F i ∧ fw F i ≤ 108 ∧ fn F i < 16 ∧ fe F i ≤ 3 := by
  unfold fw fn fe
  cases hf : F[i]? with
  | none => exact ⟨Int.le_refl 0, by decide, by decide, by decide⟩
  | some f =>
    have := h.2 f (List.mem_of_getElem? hf)
    exact this
theorem wS_mono {F : List Fr} (h : okFs F) {i : Nat} : ∀ d, wS F i ≤ wS F (i + d) ∧ wS F (i + d) ≤ wS F i + 108 * d ∧ gS F i ≤ gS F (i + d) ∧ gS F (i + d) ≤ gS F i + d
  | 0 => ⟨Int.le_refl _, by show wS F i ≤ wS F i + 108 * ((0 : Nat) : Int); omega, Nat.le_refl _, Nat.le_refl _⟩
  | d + 1 => by
    have ih := wS_mono h (i := i) d
    have hb := fw_b h (i + d)
    have e1 : wS F (i + (d + 1)) = wS F (i + d) + fw F (i + d) := rfl
    have e2 : gS F (i + (d + 1)) = gS F (i + d) + (if fe F (i + d) = 0 then 1 else 0) := rfl
    rw [e1, e2]
    refine ⟨by omega, by omega, by split <;> omega, by split <;> omega⟩
theorem wS_le {F : List Fr} (h : okFs F) {i j : Nat} (hij : i ≤ j) (hj : j ≤ F.length) : 0 ≤ wS F j - wS F i ∧ wS F j - wS F i ≤ 17280 ∧ gS F i ≤ gS F j ∧ gS F j ≤ gS F i + 160 := by
  have := wS_mono h (i := i) (j - i)
  rw [show i + (j - i) = j by omega] at this
  have hl := h.1
  refine ⟨by omega, by omega, this.2.2.1, by omega⟩
theorem gV_b {F : List Fr} (h : okFs F) {i j : Nat} (hij : i < j) (hj : j ≤ F.length) : 0 ≤ gV F i j ∧ gV F i j ≤ 160 := by
  have := wS_le h (i := i) (j := j - 1) (by omega) (by omega)
  unfold gV
  omega
theorem mul_b {a b A B : Int} (h1 : 0 ≤ a) (h2 : a ≤ A) (h3 : 0 ≤ b) (h4 : b ≤ B) : 0 ≤ a * b ∧ a * b ≤ A * B := ⟨Int.mul_nonneg h1 h3, Int.mul_le_mul h2 h4 h3 (by omega)⟩
theorem natV_b {F : List Fr} (h : okFs F) {s : Nat → Int} (hs : okS s) {i j : Nat} (hij : i < j) (hj : j ≤ F.length) : 0 ≤ natV F s i j ∧ natV F s i j ≤ 20000 := by
  have h1 := wS_le h (i := i) (j := j) (by omega) hj
  have h2 := gV_b h hij hj
  have h3 := mul_b (a := s 1) (b := gV F i j) (A := 9) (B := 160) (by have := hs.2.1; omega) hs.2.1.2 h2.1 h2.2
  unfold natV
  split <;> omega
theorem roomV_b {F : List Fr} (h : okFs F) {s : Nat → Int} (hs : okS s) {i j : Nat} (hij : i < j) (hj : j ≤ F.length) : 0 ≤ roomV F s i j ∧ roomV F s i j ≤ 5760 := by
  have h2 := gV_b h hij hj
  have h3 := strV_b hs
  have h4 := shrV_b hs
  unfold roomV
  split
  · have := mul_b h2.1 h2.2 h4.1 (B := 36) (by omega); omega
  · have := mul_b h2.1 h2.2 h3.1 h3.2; omega
/-! what floats are there -/
theorem c_m1 : fval (3212836864 : UInt32) ≠ .nan ∧ zv (3212836864 : UInt32) = -(2 ^ 149) := by
  refine ⟨?_, ?_⟩
  · rw [show fval (3212836864 : UInt32) = .fin true (2 ^ 23) (-23) by decide +kernel]; exact FP.Core.Datum.noConfusion
  · decide +kernel
theorem c_0 : nn FP.fconst0 ∧ uz FP.fconst0 = 0 ∧ zv FP.fconst0 = 0 := by
  refine ⟨⟨0, -149, by decide +kernel⟩, by decide +kernel, by decide +kernel⟩
theorem c_1 : nn FP.fconst1 ∧ uz FP.fconst1 = 2 ^ 149 := by
  refine ⟨⟨2 ^ 23, -23, by decide +kernel⟩, by decide +kernel⟩
theorem c_99 : fval (1120272384 : UInt32) ≠ .nan ∧ fval (3267756032 : UInt32) ≠ .nan ∧ zv (3267756032 : UInt32) < -(2 ^ 149) := by
  refine ⟨?_, ?_, by decide +kernel⟩
  · exact nn_ne ⟨12976128, -17, by decide +kernel⟩
  · rw [show fval (3267756032 : UInt32) = .fin true 12976128 (-17) by decide +kernel]; exact FP.Core.Datum.noConfusion
theorem c_100 : nn (1120403456 : UInt32) ∧ uz (1120403456 : UInt32) ≤ 2 ^ 156 ∧ 2 ^ 155 ≤ uz (1120403456 : UInt32) := by
  refine ⟨⟨13107200, -17, by decide +kernel⟩, by decide +kernel, by decide +kernel⟩
theorem c_3000 : nn (1161527296 : UInt32) ∧ uz (1161527296 : UInt32) ≤ 2 ^ 161 := by
  refine ⟨⟨12288000, -12, by decide +kernel⟩, by decide +kernel⟩
theorem loo_all : ∀ t : Fin 41, ∃ c q, fval (FP.fdiv (FP.i2f (iz ((t.val : Nat) : Int))) (1082130432 : UInt32)) = .fin false c q := by
  intro t
  have e : FP.i2f (iz ((4 : Nat) : Int)) = (1082130432 : UInt32) := by decide +kernel
  by_cases h : t.val = 0
  · rw [h]; exact ⟨0, -149, by decide +kernel⟩
  · rw [← e]
    have := div_ex (a := ((t.val : Nat) : Int)) (b := ((4 : Nat) : Int)) (by omega) (by omega) (by omega)
    rw [show decide (((t.val : Nat) : Int) < 0) = false from decide_eq_false (by omega)] at this
    have ev := Vp_mag (k := 153) (by omega)
    have h2 := rr_le this (by omega) (Vp_fits (k := 153) (by omega) (by omega)) (e0 := -149) (by omega) (by omega) (by
      show ((t.val : Nat) : Int).natAbs * 2 ^ 149 ≤ FP.Core.zmag FP.Core.b32 (Vp 153) * 2 ^ 0 * ((4 : Nat) : Int).natAbs
      rw [ev, Nat.pow_zero, Nat.mul_one, Int.natAbs_natCast, Int.natAbs_natCast, Nat.pow_add 2 4 149]
      have := t.isLt
      omega)
    exact h2.1
theorem loo_up : ∀ t : Fin 41, uz (FP.fdiv (FP.i2f (iz ((t.val : Nat) : Int))) (1082130432 : UInt32)) ≤ 2 ^ 153 := by
  intro t
  have e : FP.i2f (iz ((4 : Nat) : Int)) = (1082130432 : UInt32) := by decide +kernel
  have ev := Vp_mag (k := 153) (by omega)
  rw [← e]
  have := div_ex (a := ((t.val : Nat) : Int)) (b := ((4 : Nat) : Int)) (by omega) (by omega) (by omega)
  have h2 := rr_le this (by omega) (Vp_fits (k := 153) (by omega) (by omega)) (e0 := -149) (by omega) (by omega) (by
    show ((t.val : Nat) : Int).natAbs * 2 ^ 149 ≤ FP.Core.zmag FP.Core.b32 (Vp 153) * 2 ^ 0 * ((4 : Nat) : Int).natAbs
    rw [ev, Nat.pow_zero, Nat.mul_one, Int.natAbs_natCast, Int.natAbs_natCast, Nat.pow_add 2 4 149]
    have := t.isLt
    omega)
  rw [← ev]; exact h2.2
theorem loo_b {s : Nat → Int} (h : okS s) : nn (looV s) ∧ uz (looV s) ≤ 2 ^ 153 := by
  obtain ⟨_, _, _, _, h4, _⟩ := h
  obtain ⟨t, ht⟩ : ∃ t : Nat, s 4 = (t : Int) := ⟨(s 4).toNat, by omega⟩
  unfold looV
  rw [ht]
  have h1 := loo_all ⟨t, by omega⟩
  have h2 := loo_up ⟨t, by omega⟩
  exact ⟨h1, h2⟩
theorem wid_all : ∀ w : Fin 10, FP.fmul (FP.i2f (iz ((w.val : Nat) : Int))) (1148846080 : UInt32) = FP.i2f (iz (1000 * ((w.val : Nat) : Int))) := by decide +kernel
theorem rat_ne {F : List Fr} (h : okFs F) {s : Nat → Int} (hs : okS s) {i j : Nat} (hij : i < j) (hj : j ≤ F.length) : fval (ratV F s i j) ≠ .nan := by
  have hn := natV_b h hs hij hj
  have hr := roomV_b h hs hij hj
  have h0 := hs.1
  unfold ratV
  by_cases q1 : s 0 - natV F s i j = 0 ∨ (0 < s 0 - natV F s i j ∧ 2 ≤ fe F (j - 1))
  · rw [if_pos q1]; exact nn_ne c_0.1
  · rw [if_neg q1]
    by_cases q2 : roomV F s i j = 0
    · rw [if_pos q2]
      by_cases q3 : s 0 - natV F s i j ≤ 0
      · rw [if_pos q3]; exact c_99.2.1
      · rw [if_neg q3]; exact c_99.1
    · rw [if_neg q2]; exact div_ne (by omega) (by omega) (by omega)
theorem fit_iff {F : List Fr} {s : Nat → Int} {i j : Nat} : fitV F s i j = true ↔ zv (3212836864 : UInt32) ≤ zv (ratV F s i j) ∧ zv (ratV F s i j) ≤ zv (looV s) := by unfold fitV; exact decide_eq_true_iff
theorem fneg_nn {r : UInt32} (h : fval r ≠ .nan) (h1 : zv r < 0) (h2 : -(2 ^ 149) ≤ zv r) : nn (FP.fneg r) ∧ (uz (FP.fneg r) : Int) = - zv r := by
  have e : fval (FP.fneg r) = FP.Core.negate (fval r) := FP.val32_fneg r
  have hf := FP.Core.val32_fits r
  unfold zv at h1 h2 ⊢
  unfold nn uz
  rw [e]
  generalize hd : fval r = d at h h1 h2 ⊢
  cases d with
  | nan => exact absurd rfl h
  | inf t =>
    exfalso
    cases t with
    | false =>
      have h1 : ((FP.Core.b32.tails * 2 ^ (FP.Core.b32.exps - 2) : Nat) : Int) < 0 := h1
      omega
    | true =>
      have h2 : -(2 ^ 149) ≤ -((FP.Core.b32.tails * 2 ^ (FP.Core.b32.exps - 2) : Nat) : Int) := h2
      exact absurd h2 (by decide +kernel)
  | fin t c q =>
    cases t with
    | false =>
      have h1 : ((FP.Core.inUnits c q FP.Core.b32.qmin : Nat) : Int) < 0 := h1
      omega
    | true =>
      refine ⟨⟨c, q, rfl⟩, ?_⟩
      show ((FP.Core.inUnits c q FP.Core.b32.qmin : Nat) : Int) = -(-((FP.Core.inUnits c q FP.Core.b32.qmin : Nat) : Int))
      omega
