/-! the reference measures a line -/
theorem jq_q {A B : Type} (K : A) (f : A → B) : jq K f = f K := rfl
theorem i32_diff (b : Int32) (x y : Int) : (b + iz x) - (b + iz y) = iz (x - y) := by
  obtain ⟨z, _, _, rfl⟩ := iz_ex b
  rw [iz_add, iz_add, iz_sub]; congr 1; omega
theorem iz_m1n {j : Nat} (h : 1 ≤ j) : iz (j : Int) - (1 : Int32) = iz ((j - 1 : Nat) : Int) := by
  rw [show (1 : Int32) = iz (1 : Int) from rfl, iz_sub]; congr 1; omega
theorem pos_iz {z : Int} (h1 : -2147483648 ≤ z) (h2 : z < 2147483648) : iz z ≤ 0 ↔ z ≤ 0 := iz_le (b := 0) h1 h2 (by omega) (by omega)
theorem zero_iz {z : Int} (h1 : -2147483648 ≤ z) (h2 : z < 2147483648) : iz z = 0 ↔ z = 0 := iz_eq (b := 0) h1 h2 (by omega) (by omega)
section
variable {M : Mem} {v : PV} {F : List Fr}
theorem mPar.str (hv : okV v) (h : mPar (rdNow M) v) : f_X9_stretches M = some (iz (strV v.2.2.2)) := by
  have e8 : gi M 139 19 = iz (v.2.2.2 8) := h.at' (i := 8) (by omega)
  have e9 : gi M 139 20 = iz (v.2.2.2 9) := h.at' (i := 9) (by omega)
  have e2 : gi M 139 13 = iz (v.2.2.2 2) := h.at' (i := 2) (by omega)
  have hs := hv.2.2.2.2.2
  have ok8 := hs.2.2.2.2.2.2.2.2.1
  unfold f_X9_stretches strV
  rw [jq_q, e8, e9, e2, iz_add]
  by_cases q1 : v.2.2.2 8 = 1
  · rw [if_pos (show iz (v.2.2.2 8) = (1 : Int32) by rw [q1]; rfl), if_neg (by omega), if_pos (Or.inl q1)]
  rw [if_neg (show ¬ iz (v.2.2.2 8) = (1 : Int32) from neq_iz (b := 1) (by omega) (by omega) (by omega) (by omega) q1)]
  by_cases q3 : v.2.2.2 8 = 3
  · rw [if_pos (show iz (v.2.2.2 8) = (3 : Int32) by rw [q3]; rfl), if_neg (by omega), if_pos (Or.inr q3)]
  rw [if_neg (show ¬ iz (v.2.2.2 8) = (3 : Int32) from neq_iz (b := 3) (by omega) (by omega) (by omega) (by omega) q3)]
  by_cases q5 : v.2.2.2 8 = 5
  · rw [if_pos (show iz (v.2.2.2 8) = (5 : Int32) by rw [q5]; rfl), if_pos q5, show (2 : Int32) = iz (2 : Int) from rfl, iz_mul]
  · rw [if_neg (show ¬ iz (v.2.2.2 8) = (5 : Int32) from neq_iz (b := 5) (by omega) (by omega) (by omega) (by omega) q5), if_neg q5, if_neg (by omega)]
theorem mPar.shr (hv : okV v) (h : mPar (rdNow M) v) : f_X9_shrinks M = some (iz (shrV v.2.2.2)) := by
  have e8 : gi M 139 19 = iz (v.2.2.2 8) := h.at' (i := 8) (by omega)
  have e1 : gi M 139 12 = iz (v.2.2.2 1) := h.at' (i := 1) (by omega)
  have e3 : gi M 139 14 = iz (v.2.2.2 3) := h.at' (i := 3) (by omega)
  have hs := hv.2.2.2.2.2
  have ok8 := hs.2.2.2.2.2.2.2.2.1
  have ok1 := hs.2.1
  have ok3 := hs.2.2.2.1
  have K : (if iz (v.2.2.2 1) ≤ iz (v.2.2.2 3) then some (iz (v.2.2.2 1)) else some ((iz (v.2.2.2 3)) + (1 : Int32))) = some (iz (if v.2.2.2 1 ≤ v.2.2.2 3 then v.2.2.2 1 else v.2.2.2 3 + 1)) := by
    by_cases q : v.2.2.2 1 ≤ v.2.2.2 3
    · rw [if_pos (le_iz (by omega) (by omega) (by omega) (by omega) q), if_pos q]
    · rw [if_neg (nle_iz (by omega) (by omega) (by omega) (by omega) q), if_neg q, show (1 : Int32) = iz (1 : Int) from rfl, iz_add]
  unfold f_X9_shrinks shrV
  rw [jq_q, e8, e1, e3]
  by_cases q2 : v.2.2.2 8 = 2
  · rw [if_pos (show iz (v.2.2.2 8) = (2 : Int32) by rw [q2]; rfl), if_pos (Or.inl q2)]; exact K
  rw [if_neg (show ¬ iz (v.2.2.2 8) = (2 : Int32) from neq_iz (b := 2) (by omega) (by omega) (by omega) (by omega) q2)]
  by_cases q4 : v.2.2.2 8 = 4
  · rw [if_pos (show iz (v.2.2.2 8) = (4 : Int32) by rw [q4]; rfl), if_pos (Or.inr q4)]; exact K
  · rw [if_neg (show ¬ iz (v.2.2.2 8) = (4 : Int32) from neq_iz (b := 4) (by omega) (by omega) (by omega) (by omega) q4), if_neg (by omega)]
theorem mPar.pen (hv : okV v) (h : mPar (rdNow M) v) : f_X9_penalty M = some (iz (penV v.2.2.2)) := by
  have e8 : gi M 139 19 = iz (v.2.2.2 8) := h.at' (i := 8) (by omega)
  have e5 : gi M 139 16 = iz (v.2.2.2 5) := h.at' (i := 5) (by omega)
  have e9 : gi M 139 20 = iz (v.2.2.2 9) := h.at' (i := 9) (by omega)
  have hs := hv.2.2.2.2.2
  have ok8 := hs.2.2.2.2.2.2.2.2.1
  have ok5 := hs.2.2.2.2.2.1
  have K : iz (v.2.2.2 5) / (2 : Int32) = iz (v.2.2.2 5 / 2) := iz_div (b := 2) (by omega) (by omega) (by omega) (by omega)
  unfold f_X9_penalty penV
  rw [jq_q, e8, e5, e9, K]
  by_cases q2 : v.2.2.2 8 = 2
  · rw [if_pos (show iz (v.2.2.2 8) = (2 : Int32) by rw [q2]; rfl), if_pos (Or.inl q2)]
  rw [if_neg (show ¬ iz (v.2.2.2 8) = (2 : Int32) from neq_iz (b := 2) (by omega) (by omega) (by omega) (by omega) q2)]
  by_cases q4 : v.2.2.2 8 = 4
  · rw [if_pos (show iz (v.2.2.2 8) = (4 : Int32) by rw [q4]; rfl), if_pos (Or.inr q4)]
  rw [if_neg (show ¬ iz (v.2.2.2 8) = (4 : Int32) from neq_iz (b := 4) (by omega) (by omega) (by omega) (by omega) q4), if_neg (show ¬ (v.2.2.2 8 = 2 ∨ v.2.2.2 8 = 4) by omega)]
  by_cases q5 : v.2.2.2 8 = 5
  · rw [if_pos (show iz (v.2.2.2 8) = (5 : Int32) by rw [q5]; rfl), if_pos q5, iz_add]
  · rw [if_neg (show ¬ iz (v.2.2.2 8) = (5 : Int32) from neq_iz (b := 5) (by omega) (by omega) (by omega) (by omega) q5), if_neg q5]
theorem mFr.isEnd (hF : mFr M F) (hk : okFs F) {j : Nat} (h1 : 1 ≤ j) (hj : j ≤ F.length) : f_X9_isEnd (iz (j : Int)) M = some (if 2 ≤ fe F (j - 1) then 1 else 0) := by
  have hl := hk.1
  have hb := fw_b hk (j - 1)
  have e1 := (hF.2.2 (j - 1) (by omega)).1
  unfold f_X9_isEnd
  rw [iz_m1n h1, g_t (inB_n (by omega) (by omega))]
  simp only [clN (show j - 1 < 5000 by omega), e1]
  by_cases q2 : fe F (j - 1) = 2
  · rw [if_pos (show iz (fe F (j - 1) : Int) = (2 : Int32) by rw [q2]; rfl), if_pos (by omega)]
  rw [if_neg (show ¬ iz (fe F (j - 1) : Int) = (2 : Int32) from ne_cnt (i := 2) q2 (by omega) (by omega)), g_t (inB_n (by omega) (by omega))]
  by_cases q3 : fe F (j - 1) = 3
  · rw [if_pos (show iz (fe F (j - 1) : Int) = (3 : Int32) by rw [q3]; rfl), if_pos (by omega)]
  · rw [if_neg (show ¬ iz (fe F (j - 1) : Int) = (3 : Int32) from ne_cnt (i := 3) q3 (by omega) (by omega)), if_neg (by omega)]
theorem mFr.nat (hv : okV v) (h : mPar (rdNow M) v) (hF : mFr M F) (hk : okFs F) {i j : Nat} (hij : i < j) (hj : j ≤ F.length) : f_X9_natural (iz (i : Int)) (iz (j : Int)) M = some (iz (natV F v.2.2.2 i j)) := by
  have hl := hk.1
  have hb := fw_b hk (j - 1)
  have e1 := (hF.2.2 (j - 1) (by omega)).1
  obtain ⟨w1, g1⟩ := hF.2.1 i (by omega)
  obtain ⟨w2, g2⟩ := hF.2.1 j (by omega)
  obtain ⟨w3, g3⟩ := hF.2.1 (j - 1) (by omega)
  have ew : gi M 139 12 = iz (v.2.2.2 1) := h.at' (i := 1) (by omega)
  unfold f_X9_natural
  rw [iz_m1n (by omega), g_t (inB_n (by omega) (by omega)), g_t (inB_n (by omega) (by omega)), g_t (inB_n (by omega) (by omega)), g_t (inB_n (by omega) (by omega)), g_t (inB_n (by omega) (by omega)), nmq_q, clN (by omega), clN (by omega), clN (by omega), w2, w1, g3, g1, i32_diff, i32_diff, ew, iz_mul, iz_add, e1]
  unfold natV gV
  by_cases q : fe F (j - 1) = 1
  · rw [if_pos (show iz (fe F (j - 1) : Int) = (1 : Int32) by rw [q]; rfl), if_pos q, show (2 : Int32) = iz (2 : Int) from rfl, iz_add]
  · rw [if_neg (show ¬ iz (fe F (j - 1) : Int) = (1 : Int32) from ne_cnt (i := 1) q (by omega) (by omega)), if_neg q, show (0 : Int32) = iz (0 : Int) from rfl, iz_add]
theorem mFr.rat (hv : okV v) (h : mPar (rdNow M) v) (hF : mFr M F) (hk : okFs F) {i j : Nat} (hij : i < j) (hj : j ≤ F.length) : f_X9_ratioOf (iz (i : Int)) (iz (j : Int)) M = some (ratV F v.2.2.2 i j) := by
  have hl := hk.1
  have hs := hv.2.2.2.2.2
  have hn := natV_b hk hs hij hj
  have hr := roomV_b hk hs hij hj
  have h0 := hs.1
  obtain ⟨w1, g1⟩ := hF.2.1 i (by omega)
  obtain ⟨w3, g3⟩ := hF.2.1 (j - 1) (by omega)
  have el : gi M 139 11 = iz (v.2.2.2 0) := h.at' (i := 0) (by omega)
  have hne := rat_ne hk hs hij hj
  unfold f_X9_ratioOf
  rw [hF.nat hv h hk hij hj, b_s1, nmq_q, el, iz_sub]
  show (if iz (v.2.2.2 0 - natV F v.2.2.2 i j) = 0 then _ else _) = _
  by_cases q0 : v.2.2.2 0 - natV F v.2.2.2 i j = 0
  · rw [if_pos ((zero_iz (by omega) (by omega)).mpr q0)]
    unfold ratV; rw [if_pos (Or.inl q0)]
  rw [if_neg (fun e => q0 ((zero_iz (by omega) (by omega)).mp e)), jq_q]
  have K : ¬ (v.2.2.2 0 - natV F v.2.2.2 i j = 0 ∨ (0 < v.2.2.2 0 - natV F v.2.2.2 i j ∧ 2 ≤ fe F (j - 1))) → (gq (inB (iz (j : Int) - (1 : Int32)) 162) (gq (inB (iz (i : Int)) 162) (nmq (((gi M 150 (((iz (j : Int) - (1 : Int32)) : Int32).toNatClampNeg)) - (gi M 150 ((iz (i : Int) : Int32).toNatClampNeg)))) (fun (x9 : Int32) => (bq1 ((if iz (v.2.2.2 0 - natV F v.2.2.2 i j) ≤ 0 then (bq1 (f_X9_shrinks M) (fun (x18 : Int32) => (some ((x18 * x9))))) else (bq1 (f_X9_stretches M) (fun (x20 : Int32) => (some ((x20 * x9)))))) : Option (Int32)) (fun (x10 : Int32) => (if x10 = 0 then (if iz (v.2.2.2 0 - natV F v.2.2.2 i j) ≤ 0 then some (3267756032 : UInt32) else some (1120272384 : UInt32)) else (nmq (FP.fdiv (FP.i2f (iz (v.2.2.2 0 - natV F v.2.2.2 i j))) (FP.i2f x10)) (fun (x13 : UInt32) => gq (nN x13) (some x13)))))))))) = some (ratV F v.2.2.2 i j) := fun q1 => by
    have eroom : ((if iz (v.2.2.2 0 - natV F v.2.2.2 i j) ≤ 0 then (bq1 (f_X9_shrinks M) (fun (x18 : Int32) => (some ((x18 * iz (gV F i j)))))) else (bq1 (f_X9_stretches M) (fun (x20 : Int32) => (some ((x20 * iz (gV F i j))))))) : Option (Int32)) = some (iz (roomV F v.2.2.2 i j)) := by
      rw [h.shr hv, h.str hv, b_s1, b_s1, iz_mul, iz_mul]
      unfold roomV
      by_cases q3 : v.2.2.2 0 - natV F v.2.2.2 i j ≤ 0
      · rw [if_pos ((pos_iz (by omega) (by omega)).mpr q3), if_pos q3, Int.mul_comm]
      · rw [if_neg (fun e => q3 ((pos_iz (by omega) (by omega)).mp e)), if_neg q3, Int.mul_comm]
    rw [iz_m1n (by omega), g_t (inB_n (by omega) (by omega)), g_t (inB_n (by omega) (by omega)), nmq_q, clN (by omega), clN (by omega), g3, g1, i32_diff]
    have eg : iz (((gS F (j - 1) : Nat) : Int) - ((gS F i : Nat) : Int)) = iz (gV F i j) := rfl
    rw [eg, eroom, b_s1]
    unfold ratV at hne ⊢
    rw [if_neg q1] at hne ⊢
    by_cases q2 : roomV F v.2.2.2 i j = 0
    · rw [if_pos ((zero_iz (by omega) (by omega)).mpr q2), if_pos q2]
      by_cases q3 : v.2.2.2 0 - natV F v.2.2.2 i j ≤ 0
      · rw [if_pos ((pos_iz (by omega) (by omega)).mpr q3), if_pos q3]
      · rw [if_neg (fun e => q3 ((pos_iz (by omega) (by omega)).mp e)), if_neg q3]
    · rw [if_neg q2] at hne
      rw [if_neg (fun e => q2 ((zero_iz (by omega) (by omega)).mp e)), if_neg q2, nmq_q, g_t (nN_of hne)]
  by_cases q3 : v.2.2.2 0 - natV F v.2.2.2 i j ≤ 0
  · rw [if_pos ((pos_iz (by omega) (by omega)).mpr q3)]
    exact K (by omega)
  · rw [if_neg (fun e => q3 ((pos_iz (by omega) (by omega)).mp e)), hF.isEnd hk (by omega) hj, b_s1]
    by_cases q4 : 2 ≤ fe F (j - 1)
    · rw [if_pos q4, if_neg (by decide)]
      unfold ratV; rw [if_pos (Or.inr ⟨by omega, q4⟩)]
    · rw [if_neg q4, if_pos rfl]
      exact K (by omega)
theorem mFr.fit (hv : okV v) (h : mPar (rdNow M) v) (hF : mFr M F) (hk : okFs F) {i j : Nat} (hij : i < j) (hj : j ≤ F.length) : f_X9_fits (iz (i : Int)) (iz (j : Int)) M = some (if fitV F v.2.2.2 i j = true then 1 else 0) := by
  have hs := hv.2.2.2.2.2
  have hne := rat_ne hk hs hij hj
  obtain ⟨l1, l2⟩ := loo_b hs
  have et : gi M 139 15 = iz (v.2.2.2 4) := h.at' (i := 4) (by omega)
  unfold f_X9_fits
  rw [hF.rat hv h hk hij hj, b_s1, (fc_val hne c_m1.1).2]
  by_cases q1 : zv (ratV F v.2.2.2 i j) < zv (3212836864 : UInt32)
  · rw [if_pos (cmp3_lt.mpr q1), if_neg (fun e => by have := (fit_iff.mp e).1; omega)]
  rw [if_neg (fun e => q1 (cmp3_lt.mp e)), nmq_q, et]
  show gq (nN (looV v.2.2.2)) (if 0 < fcg (ratV F v.2.2.2 i j) (looV v.2.2.2) then _ else _) = _
  rw [g_t (nN_of (nn_ne l1)), (fc_val hne (nn_ne l1)).1]
  by_cases q2 : zv (looV v.2.2.2) < zv (ratV F v.2.2.2 i j)
  · rw [if_pos (cmp3_gt.mpr q2), if_neg (fun e => by have := (fit_iff.mp e).2; omega)]
  · rw [if_neg (fun e => q2 (cmp3_gt.mp e)), if_pos (fit_iff.mpr ⟨by omega, by omega⟩)]
theorem mFr.bad (hv : okV v) (h : mPar (rdNow M) v) (hF : mFr M F) (hk : okFs F) {i j : Nat} (hij : i < j) (hj : j ≤ F.length) (hf : fitV F v.2.2.2 i j = true) : f_X9_badnessOf (iz (i : Int)) (iz (j : Int)) M = some (badV (ratV F v.2.2.2 i j)) := by
  have hs := hv.2.2.2.2.2
  have hne := rat_ne hk hs hij hj
  obtain ⟨r1, r2, r3⟩ := rat_fit hk hs hij hj hf
  obtain ⟨b1, b2, b3, b4⟩ := bad_b r1 r2
  unfold f_X9_badnessOf
  rw [hF.rat hv h hk hij hj, b_s1, (fc_val hne (nn_ne c_0.1)).1]
  have e : (if 0 ≤ cmp3 (zv (ratV F v.2.2.2 i j)) (zv FP.fconst0) then (some (ratV F v.2.2.2 i j)) else (nmq ((FP.fneg (ratV F v.2.2.2 i j))) (fun (x13 : UInt32) => (some (x13))))) = some (unsV (ratV F v.2.2.2 i j)) := by
    unfold unsV
    by_cases q : 0 ≤ zv (ratV F v.2.2.2 i j)
    · rw [if_pos (cmp3_ge.mpr (by rw [c_0.2.2]; exact q)), if_pos q]
    · rw [if_neg (fun t => q (by have := cmp3_ge.mp t; rw [c_0.2.2] at this; exact this)), if_neg q, nmq_q]
  rw [e, b_s1, nmq_q, g_t (nN_of (nn_ne b1)), nmq_q, g_t (nN_of (nn_ne b2)), nmq_q, g_t (nN_of (nn_ne b3))]
  rfl
theorem widB_iff {i j : Nat} : widB F i j = true ↔ 2 ≤ fe F (j - 1) ∧ fn F i = fn F (j - 1) ∧ 0 < i ∧ fe F (i - 1) < 2 := by unfold widB; exact decide_eq_true_iff
theorem mFr.wid (hF : mFr M F) (hk : okFs F) {i j : Nat} (hij : i < j) (hj : j ≤ F.length) : f_X9_isWidow (iz (i : Int)) (iz (j : Int)) M = some (if widB F i j = true then 1 else 0) := by
  have hl := hk.1
  have e1 := (hF.2.2 (j - 1) (by omega)).2
  have e2 := (hF.2.2 i (by omega)).2
  have b1 := (fw_b hk (j - 1)).2.2.1
  have b2 := (fw_b hk i).2.2.1
  unfold f_X9_isWidow
  rw [hF.isEnd hk (by omega) hj, b_s1]
  by_cases q1 : 2 ≤ fe F (j - 1)
  case neg => rw [if_neg q1, if_pos rfl, if_neg (fun e => q1 (widB_iff.mp e).1)]
  rw [if_pos q1, if_neg (by decide), g_t (inB_n (by omega) (by omega)), iz_m1n (by omega), g_t (inB_n (by omega) (by omega)), clN (by omega), clN (by omega), e1, e2]
  by_cases q2 : fn F i = fn F (j - 1)
  case neg => rw [if_neg (ne_cnt q2 (by omega) (by omega)), if_neg (fun e => q2 (widB_iff.mp e).2.1)]
  rw [if_pos (by rw [q2])]
  by_cases q3 : 0 < i
  case neg => rw [if_pos ((pos_iz (by omega) (by omega)).mpr (by omega)), if_neg (fun e => q3 (widB_iff.mp e).2.2.1)]
  rw [if_neg (fun e => by have := (pos_iz (by omega) (by omega)).mp e; omega), hF.isEnd hk (by omega) (by omega), b_s1]
  by_cases q4 : 2 ≤ fe F (i - 1)
  · rw [if_pos q4, if_neg (by decide), if_neg (fun e => by have := (widB_iff.mp e).2.2.2; omega)]
  · rw [if_neg q4, if_pos rfl, if_pos (widB_iff.mpr ⟨q1, q2, q3, by omega⟩)]
theorem mFr.dem (hv : okV v) (h : mPar (rdNow M) v) (hF : mFr M F) (hk : okFs F) {i j : Nat} (hij : i < j) (hj : j ≤ F.length) (hf : fitV F v.2.2.2 i j = true) : f_X9_demeritsOf (iz (i : Int)) (iz (j : Int)) M = some (demV F v.2.2.2 i j) := by
  have hl := hk.1
  have hs := hv.2.2.2.2.2
  have ok7 := hs.2.2.2.2.2.2.2.1
  obtain ⟨r1, r2, r3⟩ := rat_fit hk hs hij hj hf
  obtain ⟨-, -, b1, b2⟩ := bad_b r1 r2
  obtain ⟨o1, o2, o3⟩ := one_bad (b := badV (ratV F v.2.2.2 i j)) b1 b2
  obtain ⟨p1, p2⟩ := cost_b (F := F) hs j
  obtain ⟨n1, n2, n3, n4, n5, m1, m2, m3⟩ := man_b (s := v.2.2.2) o1 o2 o3 p1 p2
  obtain ⟨y0, y1, y2, y3⟩ := hyp_b (F := F) (i := i) (j := j) m1 m2 m3
  obtain ⟨-, -, -, d4⟩ := dem_b hk hs hij hj hf
  have hb := fw_b hk (j - 1)
  have e1 := (hF.2.2 (j - 1) (by omega)).1
  have em : gi M 139 18 = iz (v.2.2.2 7) := h.at' (i := 7) (by omega)
  have e6 : gi M 139 17 = iz (v.2.2.2 6) := h.at' (i := 6) (by omega)
  unfold f_X9_demeritsOf
  rw [iz_m1n (by omega), g_t (inB_n (by omega) (by omega)), nmq_q, clN (by omega), e1]
  have ehy : (if iz (fe F (j - 1) : Int) = (1 : Int32) then ((1 : Int32)) else ((0 : Int32))) = iz ((if fe F (j - 1) = 1 then 1 else 0 : Nat) : Int) := by
    by_cases q : fe F (j - 1) = 1
    · rw [if_pos (show iz (fe F (j - 1) : Int) = (1 : Int32) by rw [q]; rfl), if_pos q]; rfl
    · rw [if_neg (show ¬ iz (fe F (j - 1) : Int) = (1 : Int32) from ne_cnt (i := 1) q (by omega) (by omega)), if_neg q]; rfl
  rw [ehy]
  have ecost : (if iz ((if fe F (j - 1) = 1 then 1 else 0 : Nat) : Int) = 0 then (some (FP.fconst0)) else (bq1 (f_X9_penalty M) (fun (x44 : Int32) => (some ((FP.i2f x44)))))) = some (costV F v.2.2.2 j) := by
    unfold costV
    by_cases q : fe F (j - 1) = 1
    · rw [if_pos q, if_neg (show ¬ iz ((1 : Nat) : Int) = 0 by decide), h.pen hv, b_s1, if_pos q]
    · rw [if_neg q, if_pos (show iz ((0 : Nat) : Int) = 0 from rfl), if_neg q]
  rw [ecost, b_s1, hF.bad hv h hk hij hj hf, b_s1, nmq_q, g_t (nN_of (nn_ne o1)), nmq_q, g_t (nN_of (nn_ne n1)), em]
  have eman : bq1 (if iz (v.2.2.2 7) = 0 then (nmq (FP.fmul (FP.fadd FP.fconst1 (badV (ratV F v.2.2.2 i j))) (FP.fadd FP.fconst1 (badV (ratV F v.2.2.2 i j)))) (fun (x36 : UInt32) => gq (nN x36) (nmq (FP.fmul (costV F v.2.2.2 j) (costV F v.2.2.2 j)) (fun (x38 : UInt32) => gq (nN x38) (nmq (FP.fadd x36 x38) (fun (x40 : UInt32) => gq (nN x40) ((some (x40))))))))) else (some (FP.fadd (FP.fadd FP.fconst1 (badV (ratV F v.2.2.2 i j))) (costV F v.2.2.2 j)))) (fun (x12 : UInt32) => (if iz (v.2.2.2 7) = (1 : Int32) then (nmq (FP.fmul x12 x12) (fun (x32 : UInt32) => gq (nN x32) ((some (x32))))) else (some (x12)))) = some (manV v.2.2.2 (FP.fadd FP.fconst1 (badV (ratV F v.2.2.2 i j))) (costV F v.2.2.2 j)) := by
    unfold manV
    by_cases q0 : v.2.2.2 7 = 0
    · rw [if_pos ((zero_iz (by omega) (by omega)).mpr q0), if_pos q0, nmq_q, g_t (nN_of (nn_ne n2)), nmq_q, g_t (nN_of (nn_ne n3)), nmq_q, g_t (nN_of (nn_ne n4)), b_s1, if_neg (by rw [q0]; decide)]
    · rw [if_neg (fun e => q0 ((zero_iz (by omega) (by omega)).mp e)), if_neg q0, b_s1]
      by_cases q1 : v.2.2.2 7 = 1
      · rw [if_pos (show iz (v.2.2.2 7) = (1 : Int32) by rw [q1]; rfl), if_pos q1, nmq_q, g_t (nN_of (nn_ne n5))]
      · rw [if_neg (show ¬ iz (v.2.2.2 7) = (1 : Int32) from neq_iz (b := 1) (by omega) (by omega) (by omega) (by omega) q1), if_neg q1]
  have bb : ∀ {α β γ : Type} (o : Option α) (f : α → Option β) (g : β → Option γ), bq1 o (fun x => bq1 (f x) g) = bq1 (bq1 o f) g := by
    intro α β γ o f g; cases o <;> rfl
  have edem : demV F v.2.2.2 i j = (if widB F i j = true then FP.fadd (hypV F i j (manV v.2.2.2 (FP.fadd FP.fconst1 (badV (ratV F v.2.2.2 i j))) (costV F v.2.2.2 j))) (FP.i2f (iz (1000 * v.2.2.2 6))) else hypV F i j (manV v.2.2.2 (FP.fadd FP.fconst1 (badV (ratV F v.2.2.2 i j))) (costV F v.2.2.2 j))) := rfl
  rw [bb, eman, b_s1, edem]
  generalize manV v.2.2.2 (FP.fadd FP.fconst1 (badV (ratV F v.2.2.2 i j))) (costV F v.2.2.2 j) = mv at y0 y1 d4 ⊢
  have ehyp : (if iz ((if fe F (j - 1) = 1 then 1 else 0 : Nat) : Int) = 0 then (some (mv)) else (if iz (i : Int) ≤ 0 then (some (mv)) else (gq (inB (iz (i : Int) - (1 : Int32)) 161) ((if (gi M 151 (((iz (i : Int) - (1 : Int32)) : Int32).toNatClampNeg)) = (1 : Int32) then (nmq (FP.fadd mv (1161527296 : UInt32)) (fun (x28 : UInt32) => gq (nN x28) ((some (x28))))) else (some (mv))))))) = some (hypV F i j mv) := by
    unfold hypV
    by_cases q : fe F (j - 1) = 1
    · rw [if_pos q, if_neg (show ¬ iz ((1 : Nat) : Int) = 0 by decide)]
      by_cases q3 : 0 < i
      · have e5 := (hF.2.2 (i - 1) (by omega)).1
        have hbi := fw_b hk (i - 1)
        rw [if_neg (fun e => by have := (pos_iz (by omega) (by omega)).mp e; omega), iz_m1n (by omega), g_t (inB_n (by omega) (by omega)), clN (by omega), e5]
        by_cases q4 : fe F (i - 1) = 1
        · rw [if_pos (show iz (fe F (i - 1) : Int) = (1 : Int32) by rw [q4]; rfl), nmq_q, g_t (nN_of (nn_ne y0)), if_pos ⟨q, q3, q4⟩]
        · rw [if_neg (show ¬ iz (fe F (i - 1) : Int) = (1 : Int32) from ne_cnt (i := 1) q4 (by omega) (by omega)), if_neg (fun e => q4 e.2.2)]
      · rw [if_pos ((pos_iz (by omega) (by omega)).mpr (by omega)), if_neg (fun e => q3 e.2.1)]
    · rw [if_neg q, if_pos (show iz ((0 : Nat) : Int) = 0 from rfl), if_neg (fun e => q e.1)]
  have e1000 : (1000 : Int32) * iz (v.2.2.2 6) = iz (1000 * v.2.2.2 6) := by rw [show (1000 : Int32) = iz (1000 : Int) from rfl, iz_mul]
  rw [ehyp, b_s1, hF.wid hk hij hj, b_s1, e6, e1000]
  by_cases q : widB F i j = true
  · rw [if_pos q, if_neg (by decide), if_pos q, nmq_q, g_t (nN_of (nn_ne d4))]
  · rw [if_neg q, if_pos rfl, if_neg q]
end
