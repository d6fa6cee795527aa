/-! a line that fits: its ratio, badness, demerits -/
theorem zv_signed (r : UInt32) : zv r = FP.Core.signed (FP.Core.sgn (fval r)) (uz r) := rfl
theorem top_big : (2 : Nat) ^ 200 ≤ FP.Core.b32.tails * 2 ^ (FP.Core.b32.exps - 2) := by decide +kernel
theorem nn_of_sgn {x : UInt32} (hne : fval x ≠ .nan) (hs : FP.Core.sgn (fval x) = false) (h : uz x ≤ 2 ^ 199) : nn x := by
  have ht := top_big
  unfold uz at h
  unfold nn
  generalize fval x = d at hne hs h
  cases d with
  | nan => exact absurd rfl hne
  | inf t =>
    have h : FP.Core.b32.tails * 2 ^ (FP.Core.b32.exps - 2) ≤ 2 ^ 199 := h
    have h2 : (2 : Nat) ^ 199 < 2 ^ 200 := by decide +kernel
    omega
  | fin t c q =>
    have hs : t = false := hs
    exact ⟨c, q, by rw [hs]⟩
theorem div_fit {a b : Int} (ha0 : a ≠ 0) (ha : a.natAbs ≤ 30000) (hb : 0 < b) (hb2 : b ≤ 8192) {x : UInt32} (hx : x = FP.fdiv (FP.i2f (iz a)) (FP.i2f (iz b))) (f1 : -(2 ^ 149) ≤ zv x) (f2 : zv x ≤ ((2 ^ 153 : Nat) : Int)) : nn (unsV x) ∧ uz (unsV x) ≤ 2 ^ 153 ∧ 2 ^ 136 ≤ uz (unsV x) ∧ fval x ≠ .nan := by
  have ed := div_ex (a := a) (b := b) (by omega) hb (by omega)
  have hne := div_ne (a := a) (b := b) (by omega) hb (by omega)
  rw [← hx] at ed hne
  have hsg : FP.Core.sgn (fval x) = decide (a < 0) := by rw [ed]; exact FP.Core.sgn_roundRatio _ _ _ _ _
  have hlow : 2 ^ 136 ≤ uz x := by
    have ev := Vp_mag (k := 136) (by omega)
    rw [← ev]
    refine rr_ge ed (by omega) (Vp_fits (k := 136) (by omega) (by omega)) (e0 := -149) (by omega) (by omega) ?_
    rw [ev]
    show 2 ^ 136 * 2 ^ 0 * b.natAbs ≤ a.natAbs * 2 ^ 149
    rw [Nat.pow_zero, Nat.mul_one]
    have h1 : b.natAbs ≤ 8192 := by omega
    have h2 : 1 ≤ a.natAbs := by omega
    calc 2 ^ 136 * b.natAbs ≤ 2 ^ 136 * 8192 := Nat.mul_le_mul_left _ h1
      _ = 1 * 2 ^ 149 := by decide +kernel
      _ ≤ _ := Nat.mul_le_mul_right _ h2
  have hpos : 0 < (2 : Nat) ^ 136 := Nat.two_pow_pos _
  by_cases q4 : a < 0
  · rw [decide_eq_true q4] at hsg
    have hz : zv x = -(uz x : Int) := by rw [zv_signed, hsg]; rfl
    have hneg : zv x < 0 := by omega
    obtain ⟨g1, g2⟩ := fneg_nn hne hneg f1
    have e : unsV x = FP.fneg x := by unfold unsV; rw [if_neg (by omega)]
    have h3 : uz (FP.fneg x) = uz x := by omega
    rw [e, h3]
    refine ⟨g1, ?_, hlow, hne⟩
    have h5 : (uz x : Int) ≤ 2 ^ 149 := by omega
    have h6 : ((2 : Int) ^ 149) = ((2 ^ 149 : Nat) : Int) := by decide +kernel
    have h7 : (2 : Nat) ^ 149 ≤ 2 ^ 153 := Nat.pow_le_pow_right (by omega) (by omega)
    omega
  · rw [decide_eq_false q4] at hsg
    have hz : zv x = (uz x : Int) := by rw [zv_signed, hsg]; rfl
    have e : unsV x = x := by unfold unsV; rw [if_pos (by omega)]
    rw [e]
    have hu : uz x ≤ 2 ^ 153 := by omega
    refine ⟨nn_of_sgn hne hsg (Nat.le_trans hu (Nat.pow_le_pow_right (by omega) (by omega))), hu, hlow, hne⟩
theorem uns_0 : unsV FP.fconst0 = FP.fconst0 := by unfold unsV; rw [if_pos (by rw [c_0.2.2]; omega)]
theorem rat_fit {F : List Fr} (h : okFs F) {s : Nat → Int} (hs : okS s) {i j : Nat} (hij : i < j) (hj : j ≤ F.length) (hf : fitV F s i j = true) : nn (unsV (ratV F s i j)) ∧ uz (unsV (ratV F s i j)) ≤ 2 ^ 153 ∧ (ratV F s i j = FP.fconst0 ∨ 2 ^ 136 ≤ uz (unsV (ratV F s i j))) := by
  have hn := natV_b h hs hij hj
  have hr := roomV_b h hs hij hj
  have h0 := hs.1
  obtain ⟨f1, f2⟩ := fit_iff.mp hf
  rw [c_m1.2] at f1
  obtain ⟨l1, l2⟩ := loo_b hs
  rw [zv_nn l1] at f2
  have f2 : zv (ratV F s i j) ≤ ((2 ^ 153 : Nat) : Int) := by omega
  by_cases q1 : s 0 - natV F s i j = 0 ∨ (0 < s 0 - natV F s i j ∧ 2 ≤ fe F (j - 1))
  · have e : ratV F s i j = FP.fconst0 := by unfold ratV; rw [if_pos q1]
    rw [e, uns_0]
    exact ⟨c_0.1, by rw [c_0.2.1]; exact Nat.zero_le _, Or.inl rfl⟩
  by_cases q2 : roomV F s i j = 0
  · by_cases q3 : s 0 - natV F s i j ≤ 0
    · have e : ratV F s i j = (3267756032 : UInt32) := by unfold ratV; rw [if_neg q1, if_pos q2, if_pos q3]
      rw [e] at f1
      have := c_99.2.2
      omega
    · have e : ratV F s i j = (1120272384 : UInt32) := by unfold ratV; rw [if_neg q1, if_pos q2, if_neg q3]
      rw [e] at f2
      exact absurd f2 (by decide +kernel)
  · have e : ratV F s i j = FP.fdiv (FP.i2f (iz (s 0 - natV F s i j))) (FP.i2f (iz (roomV F s i j))) := by unfold ratV; rw [if_neg q1, if_neg q2]
    have := div_fit (a := s 0 - natV F s i j) (b := roomV F s i j) (by omega) (by omega) (by omega) (by omega) e f1 f2
    exact ⟨this.1, this.2.1, Or.inr this.2.2.1⟩
theorem bad_b {u : UInt32} (hu : nn u) (h : uz u ≤ 2 ^ 153) : nn (FP.fmul u u) ∧ nn (FP.fmul (FP.fmul u u) u) ∧ nn (FP.fmul (FP.fmul (FP.fmul u u) u) (1120403456 : UInt32)) ∧ uz (FP.fmul (FP.fmul (FP.fmul u u) u) (1120403456 : UInt32)) ≤ 2 ^ 168 := by
  obtain ⟨a1, a2⟩ := mul_p hu hu (i := 153) (j := 153) (k := 157) (by omega) (by omega) (by omega) h h
  obtain ⟨b1, b2⟩ := mul_p a1 hu (i := 157) (j := 153) (k := 161) (by omega) (by omega) (by omega) a2 h
  obtain ⟨c1, c2⟩ := mul_p b1 c_100.1 (i := 161) (j := 156) (k := 168) (by omega) (by omega) (by omega) b2 c_100.2.1
  exact ⟨a1, b1, c1, c2⟩
theorem bad_g {u : UInt32} (hu : nn u) (h : uz u ≤ 2 ^ 153) (hg : 2 ^ 136 ≤ uz u) : 2 ^ 116 ≤ uz (FP.fmul (FP.fmul (FP.fmul u u) u) (1120403456 : UInt32)) := by
  obtain ⟨a1, b1, c1, c2⟩ := bad_b hu h
  have a := mul_g hu hu (i := 136) (j := 136) (k := 123) (by omega) (by omega) (by omega) hg hg
  have b := mul_g a1 hu (i := 123) (j := 136) (k := 110) (by omega) (by omega) (by omega) a hg
  exact mul_g b1 c_100.1 (i := 110) (j := 155) (k := 116) (by omega) (by omega) (by omega) b c_100.2.2
theorem cost_b {F : List Fr} {s : Nat → Int} (hs : okS s) (j : Nat) : nn (costV F s j) ∧ uz (costV F s j) ≤ 2 ^ 156 := by
  unfold costV
  by_cases q : fe F (j - 1) = 1
  · rw [if_pos q]
    have hp := penV_b hs
    exact i2f_p hp.1 (k := 7) (by show penV s ≤ 128; omega) (by omega)
  · rw [if_neg q]; exact ⟨c_0.1, by rw [c_0.2.1]; exact Nat.zero_le _⟩
theorem one_bad {b : UInt32} (hb : nn b) (h : uz b ≤ 2 ^ 168) : nn (FP.fadd FP.fconst1 b) ∧ uz (FP.fadd FP.fconst1 b) ≤ 2 ^ 169 ∧ 2 ^ 149 ≤ uz (FP.fadd FP.fconst1 b) := by
  have h1 : uz FP.fconst1 ≤ 2 ^ 168 := by rw [c_1.2]; exact Nat.pow_le_pow_right (by omega) (by omega)
  obtain ⟨a1, a2⟩ := add_p c_1.1 hb (k := 168) (by omega) (by omega) h1 h
  exact ⟨a1, a2, add_g c_1.1 hb (k := 149) (by omega) (by omega) (by rw [c_1.2]; omega)⟩
theorem man_b {s : Nat → Int} {x p : UInt32} (hx : nn x) (h1 : uz x ≤ 2 ^ 169) (h2 : 2 ^ 149 ≤ uz x) (hp : nn p) (h3 : uz p ≤ 2 ^ 156) : nn (FP.fadd x p) ∧ nn (FP.fmul x x) ∧ nn (FP.fmul p p) ∧ nn (FP.fadd (FP.fmul x x) (FP.fmul p p)) ∧ nn (FP.fmul (FP.fadd x p) (FP.fadd x p)) ∧ nn (manV s x p) ∧ uz (manV s x p) ≤ 2 ^ 192 ∧ 2 ^ 149 ≤ uz (manV s x p) := by
  have h3' : uz p ≤ 2 ^ 169 := Nat.le_trans h3 (Nat.pow_le_pow_right (by omega) (by omega))
  obtain ⟨a1, a2⟩ := add_p hx hp (k := 169) (by omega) (by omega) h1 h3'
  have a3 := add_g hx hp (k := 149) (by omega) (by omega) (by omega)
  obtain ⟨b1, b2⟩ := mul_p hx hx (i := 169) (j := 169) (k := 189) (by omega) (by omega) (by omega) h1 h1
  have b3 := mul_g hx hx (i := 149) (j := 149) (k := 149) (by omega) (by omega) (by omega) h2 h2
  obtain ⟨c1, c2⟩ := mul_p hp hp (i := 156) (j := 156) (k := 163) (by omega) (by omega) (by omega) h3 h3
  have c2' : uz (FP.fmul p p) ≤ 2 ^ 189 := Nat.le_trans c2 (Nat.pow_le_pow_right (by omega) (by omega))
  obtain ⟨d1, d2⟩ := add_p b1 c1 (k := 189) (by omega) (by omega) b2 c2'
  have d3 := add_g b1 c1 (k := 149) (by omega) (by omega) (by omega)
  obtain ⟨e1, e2⟩ := mul_p a1 a1 (i := 170) (j := 170) (k := 191) (by omega) (by omega) (by omega) a2 a2
  have e3 := mul_g a1 a1 (i := 149) (j := 149) (k := 149) (by omega) (by omega) (by omega) a3 a3
  have p1 : (2 : Nat) ^ 190 ≤ 2 ^ 192 := Nat.pow_le_pow_right (by omega) (by omega)
  have p2 : (2 : Nat) ^ 191 ≤ 2 ^ 192 := Nat.pow_le_pow_right (by omega) (by omega)
  have p3 : (2 : Nat) ^ 170 ≤ 2 ^ 192 := Nat.pow_le_pow_right (by omega) (by omega)
  refine ⟨a1, b1, c1, d1, e1, ?_⟩
  unfold manV
  by_cases q0 : s 7 = 0
  · rw [if_pos q0]; exact ⟨d1, Nat.le_trans d2 p1, d3⟩
  · rw [if_neg q0]
    by_cases q1 : s 7 = 1
    · rw [if_pos q1]; exact ⟨e1, Nat.le_trans e2 p2, e3⟩
    · rw [if_neg q1]; exact ⟨a1, Nat.le_trans a2 p3, a3⟩
theorem hyp_b {F : List Fr} {i j : Nat} {x : UInt32} (hx : nn x) (h1 : uz x ≤ 2 ^ 192) (h2 : 2 ^ 149 ≤ uz x) : nn (FP.fadd x (1161527296 : UInt32)) ∧ nn (hypV F i j x) ∧ uz (hypV F i j x) ≤ 2 ^ 193 ∧ 2 ^ 149 ≤ uz (hypV F i j x) := by
  have h3 : uz (1161527296 : UInt32) ≤ 2 ^ 192 := Nat.le_trans c_3000.2 (Nat.pow_le_pow_right (by omega) (by omega))
  obtain ⟨a1, a2⟩ := add_p hx c_3000.1 (k := 192) (by omega) (by omega) h1 h3
  have a3 := add_g hx c_3000.1 (k := 149) (by omega) (by omega) (by omega)
  have p1 : (2 : Nat) ^ 192 ≤ 2 ^ 193 := Nat.pow_le_pow_right (by omega) (by omega)
  refine ⟨a1, ?_⟩
  unfold hypV
  by_cases q : fe F (j - 1) = 1 ∧ 0 < i ∧ fe F (i - 1) = 1
  · rw [if_pos q]; exact ⟨a1, a2, a3⟩
  · rw [if_neg q]; exact ⟨hx, Nat.le_trans h1 p1, h2⟩
theorem widc_b {s : Nat → Int} (hs : okS s) : nn (FP.i2f (iz (1000 * s 6))) ∧ uz (FP.i2f (iz (1000 * s 6))) ≤ 2 ^ 163 := by
  have h6 := hs.2.2.2.2.2.2.1
  exact i2f_p (by omega) (k := 14) (by show 1000 * s 6 ≤ 16384; omega) (by omega)
theorem dem_b {F : List Fr} (h : okFs F) {s : Nat → Int} (hs : okS s) {i j : Nat} (hij : i < j) (hj : j ≤ F.length) (hf : fitV F s i j = true) : nn (demV F s i j) ∧ uz (demV F s i j) ≤ 2 ^ 194 ∧ 2 ^ 149 ≤ uz (demV F s i j) ∧ nn (FP.fadd (hypV F i j (manV s (FP.fadd FP.fconst1 (badV (ratV F s i j))) (costV F s j))) (FP.i2f (iz (1000 * s 6)))) := by
  obtain ⟨r1, r2, r3⟩ := rat_fit h hs hij hj hf
  obtain ⟨-, -, b1, b2⟩ := bad_b r1 r2
  obtain ⟨o1, o2, o3⟩ := one_bad (b := badV (ratV F s i j)) b1 b2
  obtain ⟨p1, p2⟩ := cost_b (F := F) hs j
  obtain ⟨-, -, -, -, -, m1, m2, m3⟩ := man_b (s := s) o1 o2 o3 p1 p2
  obtain ⟨-, y1, y2, y3⟩ := hyp_b (F := F) (i := i) (j := j) m1 m2 m3
  obtain ⟨w1, w2⟩ := widc_b hs
  have w2' : uz (FP.i2f (iz (1000 * s 6))) ≤ 2 ^ 193 := Nat.le_trans w2 (Nat.pow_le_pow_right (by omega) (by omega))
  obtain ⟨a1, a2⟩ := add_p y1 w1 (k := 193) (by omega) (by omega) y2 w2'
  have a3 := add_g y1 w1 (k := 149) (by omega) (by omega) (by omega)
  have q1 : (2 : Nat) ^ 193 ≤ 2 ^ 194 := Nat.pow_le_pow_right (by omega) (by omega)
  unfold demV
  by_cases q : widB F i j = true
  · simp only [q, if_true]; exact ⟨a1, a2, a3, a1⟩
  · simp only [q]
    exact ⟨y1, Nat.le_trans y2 q1, y3, a1⟩
