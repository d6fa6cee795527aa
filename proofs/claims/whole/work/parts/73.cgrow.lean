/-! the class's line grows -/
def fullB (F : List Fr) (s : Nat → Int) (i j : Nat) : Bool := decide (fe F (j - 1) = 2 ∨ s 0 < wS F j - wS F i + gV F i j * (s 1 - shrV s))
theorem fullB_iff {F : List Fr} {s : Nat → Int} {i j : Nat} : fullB F s i j = true ↔ fe F (j - 1) = 2 ∨ s 0 < wS F j - wS F i + gV F i j * (s 1 - shrV s) := by unfold fullB; exact decide_eq_true_iff
theorem c_rat {M : Mem} {F : List Fr} {s : Nat → Int} (hs : okS s) (hk : okFs F) {i j : Nat} (hij : i < j) (hj : j ≤ F.length) (hm : cMs M s) (e4 : gi M 127 4 = iz (natV F s i j)) (e9 : gi M 127 9 = iz (gV F i j)) (e5 : gi M 127 5 = iz (fe F (j - 1) : Int)) : f_X2_ratioOfLine M = some (ratV F s i j) := by
  have hn := natV_b hk hs hij hj
  have hr := roomV_b hk hs hij hj
  have h0 := hs.1
  have hb := fw_b hk (j - 1)
  have hne := rat_ne hk hs hij hj
  obtain ⟨m0, m1, m2, m3, m4, m5, m6, m7⟩ := hm
  unfold f_X2_ratioOfLine
  rw [m0, e4, iz_sub, nmq_q]
  by_cases q0 : s 0 - natV F s i j = 0
  · rw [if_pos ((zero_iz (by omega) (by omega)).mpr q0)]
    unfold ratV; rw [if_pos (Or.inl q0)]
  rw [if_neg (fun e => q0 ((zero_iz (by omega) (by omega)).mp e)), jq_q]
  have K : ¬ (s 0 - natV F s i j = 0 ∨ (0 < s 0 - natV F s i j ∧ 2 ≤ fe F (j - 1))) → (nmq ((if iz (s 0 - natV F s i j) ≤ 0 then ((gi M 127 13)) else ((gi M 127 12)))) (fun (x5 : Int32) => (nmq (((gi M 127 9) * x5)) (fun (x7 : Int32) => (if x7 = 0 then (if iz (s 0 - natV F s i j) ≤ 0 then some (3267756032 : UInt32) else some (1120272384 : UInt32)) else (nmq (FP.fdiv (FP.i2f (iz (s 0 - natV F s i j))) (FP.i2f x7)) (fun (x9 : UInt32) => gq (nN x9) (some x9)))))))) = some (ratV F s i j) := fun q1 => by
    have eroom : gi M 127 9 * (if iz (s 0 - natV F s i j) ≤ 0 then ((gi M 127 13)) else ((gi M 127 12))) = iz (roomV F s i j) := by
      rw [e9, m2, m3]
      unfold roomV
      by_cases q3 : s 0 - natV F s i j ≤ 0
      · rw [if_pos ((pos_iz (by omega) (by omega)).mpr q3), if_pos q3, iz_mul]
      · rw [if_neg (fun e => q3 ((pos_iz (by omega) (by omega)).mp e)), if_neg q3, iz_mul]
    rw [nmq_q, nmq_q, eroom]
    unfold ratV at hne ⊢
    rw [if_neg q1] at hne ⊢
    by_cases q2 : roomV F s i j = 0
    · rw [if_pos ((zero_iz (by omega) (by omega)).mpr q2), if_pos q2]
      by_cases q3 : s 0 - natV F s i j ≤ 0
      · rw [if_pos ((pos_iz (by omega) (by omega)).mpr q3), if_pos q3]
      · rw [if_neg (fun e => q3 ((pos_iz (by omega) (by omega)).mp e)), if_neg q3]
    · rw [if_neg q2] at hne
      rw [if_neg (fun e => q2 ((zero_iz (by omega) (by omega)).mp e)), if_neg q2, nmq_q, g_t (nN_of hne)]
  by_cases q3 : s 0 - natV F s i j ≤ 0
  · rw [if_pos ((pos_iz (by omega) (by omega)).mpr q3)]
    exact K (by omega)
  · rw [if_neg (fun e => q3 ((pos_iz (by omega) (by omega)).mp e)), e5]
    by_cases q4 : 2 ≤ fe F (j - 1)
    · rw [if_neg (show ¬ iz (fe F (j - 1) : Int) < (2 : Int32) from nlt_iz (b := 2) (by omega) (by omega) (by omega) (by omega) (by omega))]
      unfold ratV; rw [if_pos (Or.inr ⟨by omega, q4⟩)]
    · rw [if_pos (show iz (fe F (j - 1) : Int) < (2 : Int32) from lt_iz (b := 2) (by omega) (by omega) (by omega) (by omega) (by omega))]
      exact K (by omega)
theorem c_grow {M : Mem} {F : List Fr} {s : Nat → Int} (hs : okS s) (hk : okFs F) (hF : cFr M F) (hm : cMs M s) {i j : Nat} (hij : i ≤ j) (hj : j < F.length) (hL : cLn M F s i j) : ∃ M', f_X2_grow M = some M' ∧ cLn M' F s i (j + 1) ∧ cMs M' s ∧ sameOn (fun k => k ≠ 127) M M' := by
  have hl := hk.1
  have a129 : alen 129 = 192 := rfl
  have a130 : alen 130 = 192 := rfl
  have a131 : alen 131 = 192 := rfl
  obtain ⟨l1, l2, l7, l8, l9, lr⟩ := hL
  have hbj := fw_b hk (j - 1)
  obtain ⟨M1, e1, g9, s1, k1⟩ : ∃ M1, (if (gi M 127 2) < (gi M 127 1) then (some (M)) else (if (gi M 127 5) = 0 then (nmq (si M 127 9 ((gi M 127 9) + (1 : Int32))) (fun (M26 : Mem) => (some (M26)))) else (some (M)))) = some M1 ∧ gi M1 127 9 = iz (gV F i (j + 1)) ∧ sameOn (fun k => k ≠ 127) M M1 ∧ (∀ t, t ≠ 9 → gi M1 127 t = gi M 127 t) ∧ gf M1 127 = gf M 127 := by
    rw [l1, l2]
    by_cases q : j = i
    · refine ⟨M, ?_, ?_, sameOn.rf, fun _ _ => rfl, rfl⟩
      · rw [if_pos (lt_iz (by omega) (by omega) (by omega) (by omega) (by omega))]
      · rw [l9]; unfold gW gV; rw [if_pos q, q]; congr 1; show 0 = ((gS F i : Nat) : Int) - ((gS F i : Nat) : Int); omega
    · have hij' : i < j := by omega
      have e5 := (lr hij').1
      have hgS : gS F j = gS F (j - 1) + (if fe F (j - 1) = 0 then 1 else 0) := by
        have : gS F ((j - 1) + 1) = gS F (j - 1) + (if fe F (j - 1) = 0 then 1 else 0) := rfl
        rwa [show j - 1 + 1 = j by omega] at this
      have hgW : gi M 127 9 = iz (gV F i j) := by rw [l9]; unfold gW; rw [if_neg q]
      rw [if_neg (nlt_iz (by omega) (by omega) (by omega) (by omega) (by omega)), e5]
      by_cases q2 : fe F (j - 1) = 0
      · refine ⟨si M 127 9 (iz (gV F i (j + 1))), ?_, by rw [gi_si, if_pos ⟨rfl, rfl⟩], sameOn.si (by omega), fun t ht => by rw [gi_si, if_neg (by omega)], rfl⟩
        rw [if_pos (show iz (fe F (j - 1) : Int) = 0 by rw [q2]; rfl), nmq_q, hgW, show (1 : Int32) = iz (1 : Int) from rfl, iz_add]
        have : gV F i j + 1 = gV F i (j + 1) := by
          unfold gV
          rw [show j + 1 - 1 = j by omega, hgS, if_pos q2]; omega
        rw [this]
      · refine ⟨M, ?_, ?_, sameOn.rf, fun _ _ => rfl, rfl⟩
        · rw [if_neg (show ¬ iz (fe F (j - 1) : Int) = 0 from ne_cnt (i := 0) q2 (by omega) (by omega))]
        · rw [hgW]
          have : gV F i j = gV F i (j + 1) := by
            unfold gV
            rw [show j + 1 - 1 = j by omega, hgS, if_neg q2]; omega
          rw [this]
  obtain ⟨k1a, k1b⟩ := k1
  have hFn : ∀ N, sameOn (fun k => k ≠ 127) M N → gi N 129 j = iz (fw F j) ∧ gi N 130 j = iz (fn F j : Int) ∧ gi N 131 j = iz (fe F j : Int) ∧ gi N 130 i = iz (fn F i : Int) := fun N hN => by
    have hFN : cFr N F := hF.same (hN.mono (fun k hk => by omega))
    exact ⟨(hFN.at' hj).1, (hFN.at' hj).2.1, (hFN.at' hj).2.2, (hFN.at' (i := i) (by omega)).2.1⟩
  obtain ⟨M3, e3⟩ : ∃ M3, M3 = si M1 127 2 (iz (j : Int)) := ⟨_, rfl⟩
  obtain ⟨M6, e6⟩ : ∃ M6, M6 = si M3 127 8 (iz (wS F (j + 1) - wS F i)) := ⟨_, rfl⟩
  obtain ⟨M9, e9⟩ : ∃ M9, M9 = si M6 127 5 (iz (fe F j : Int)) := ⟨_, rfl⟩
  obtain ⟨M14, e14⟩ : ∃ M14, M14 = si M9 127 3 (iz ((fn F j : Int) - (fn F i : Int) + 1)) := ⟨_, rfl⟩
  obtain ⟨M17, e17⟩ : ∃ M17, M17 = si M14 127 4 (iz (natV F s i (j + 1))) := ⟨_, rfl⟩
  obtain ⟨M', e20⟩ : ∃ M', M' = sf M17 127 6 (ratV F s i (j + 1)) := ⟨_, rfl⟩
  have s3 : sameOn (fun k => k ≠ 127) M M3 := by rw [e3]; exact s1.tr (sameOn.si (by omega))
  have s6 : sameOn (fun k => k ≠ 127) M M6 := by rw [e6]; exact s3.tr (sameOn.si (by omega))
  have s9 : sameOn (fun k => k ≠ 127) M M9 := by rw [e9]; exact s6.tr (sameOn.si (by omega))
  have s14 : sameOn (fun k => k ≠ 127) M M14 := by rw [e14]; exact s9.tr (sameOn.si (by omega))
  have s17 : sameOn (fun k => k ≠ 127) M M17 := by rw [e17]; exact s14.tr (sameOn.si (by omega))
  have g3 : ∀ t, gi M3 127 t = if t = 2 then iz (j : Int) else gi M1 127 t := fun t => by rw [e3, gi_si]; simp only [true_and]
  have g6 : ∀ t, gi M6 127 t = if t = 8 then iz (wS F (j + 1) - wS F i) else gi M3 127 t := fun t => by rw [e6, gi_si]; simp only [true_and]
  have g9' : ∀ t, gi M9 127 t = if t = 5 then iz (fe F j : Int) else gi M6 127 t := fun t => by rw [e9, gi_si]; simp only [true_and]
  have g14 : ∀ t, gi M14 127 t = if t = 3 then iz ((fn F j : Int) - (fn F i : Int) + 1) else gi M9 127 t := fun t => by rw [e14, gi_si]; simp only [true_and]
  have g17 : ∀ t, gi M17 127 t = if t = 4 then iz (natV F s i (j + 1)) else gi M14 127 t := fun t => by rw [e17, gi_si]; simp only [true_and]
  have hfar : ∀ t, t ≠ 2 → t ≠ 3 → t ≠ 4 → t ≠ 5 → t ≠ 8 → t ≠ 9 → gi M17 127 t = gi M 127 t := fun t a b c d e f => by
    rw [g17, if_neg c, g14, if_neg b, g9', if_neg d, g6, if_neg e, g3, if_neg a, k1a t f]
  have f17 : gf M17 127 = gf M 127 := by rw [e17, e14, e9, e6, e3]; exact k1b
  have m17 : cMs M17 s := by
    unfold cMs
    rw [hfar 10 (by omega) (by omega) (by omega) (by omega) (by omega) (by omega), hfar 11 (by omega) (by omega) (by omega) (by omega) (by omega) (by omega), hfar 12 (by omega) (by omega) (by omega) (by omega) (by omega) (by omega), hfar 13 (by omega) (by omega) (by omega) (by omega) (by omega) (by omega), hfar 14 (by omega) (by omega) (by omega) (by omega) (by omega) (by omega), hfar 15 (by omega) (by omega) (by omega) (by omega) (by omega) (by omega), hfar 16 (by omega) (by omega) (by omega) (by omega) (by omega) (by omega), f17]
    exact hm
  have h17_9 : gi M17 127 9 = iz (gV F i (j + 1)) := by rw [g17, if_neg (by omega), g14, if_neg (by omega), g9', if_neg (by omega), g6, if_neg (by omega), g3, if_neg (by omega), g9]
  have h17_5 : gi M17 127 5 = iz (fe F j : Int) := by rw [g17, if_neg (by omega), g14, if_neg (by omega), g9', if_pos rfl]
  have h17_4 : gi M17 127 4 = iz (natV F s i (j + 1)) := by rw [g17, if_pos rfl]
  have hrat := c_rat hs hk (i := i) (j := j + 1) (by omega) (by omega) m17 h17_4 h17_9 h17_5
  have gi20 : gi M' 127 = gi M17 127 := by rw [e20]; rfl
  refine ⟨M', ?_, ⟨?_, ?_, ?_, ?_, ?_, fun _ => ⟨?_, ?_, ?_, ?_⟩⟩, ?_, by rw [e20]; exact s17.tr (sameOn.sf (by omega))⟩
  · unfold f_X2_grow
    have c2 : gi M1 127 2 + (1 : Int32) = iz (j : Int) := by
      rw [k1a 2 (by omega), l2, show (1 : Int32) = iz (1 : Int) from rfl, iz_add]; congr 1; omega
    have d3 : gi M3 127 2 = iz (j : Int) := by rw [g3, if_pos rfl]
    have d8 : gi M3 127 8 + iz (fw F j) = iz (wS F (j + 1) - wS F i) := by
      rw [g3, if_neg (by omega), k1a 8 (by omega), l8, iz_add]; congr 1
      show wS F j - wS F i + fw F j = wS F j + fw F j - wS F i
      omega
    have d6 : gi M6 127 2 = iz (j : Int) := by rw [g6, if_neg (by omega), d3]
    have d9 : gi M9 127 2 = iz (j : Int) := by rw [g9', if_neg (by omega), d6]
    have d91 : gi M9 127 1 = iz (i : Int) := by rw [g9', if_neg (by omega), g6, if_neg (by omega), g3, if_neg (by omega), k1a 1 (by omega), l1]
    have d145 : gi M14 127 5 = iz (fe F j : Int) := by rw [g14, if_neg (by omega), g9', if_pos rfl]
    have d148 : gi M14 127 8 = iz (wS F (j + 1) - wS F i) := by rw [g14, if_neg (by omega), g9', if_neg (by omega), g6, if_pos rfl]
    have d149 : gi M14 127 9 = iz (gV F i (j + 1)) := by rw [g14, if_neg (by omega), g9', if_neg (by omega), g6, if_neg (by omega), g3, if_neg (by omega), g9]
    have d1411 : gi M14 127 11 = iz (s 1) := by rw [g14, if_neg (by omega), g9', if_neg (by omega), g6, if_neg (by omega), g3, if_neg (by omega), k1a 11 (by omega)]; exact hm.2.1
    have hbj2 := fw_b hk j
    rw [e1, b_s1, nmq_q, c2, ← e3, d3, c_at a129 (by omega) (by omega), b_s1, nmq_q, (hFn M3 s3).1, d8, ← e6, d6, c_at a131 (by omega) (by omega), b_s1, nmq_q, (hFn M6 s6).2.2.1, ← e9, d9, c_at a130 (by omega) (by omega), b_s1, d91, c_at a130 (by omega) (by omega), b_s1, nmq_q, (hFn M9 s9).2.1, (hFn M9 s9).2.2.2, iz_sub, show (1 : Int32) = iz (1 : Int) from rfl, iz_add, ← e14, nmq_q, nmq_q, d145, d148, d149, d1411, iz_mul, iz_add]
    have en : iz (wS F (j + 1) - wS F i + gV F i (j + 1) * s 1) + (if iz (fe F j : Int) = iz (1 : Int) then (2 : Int32) else (0 : Int32)) = iz (natV F s i (j + 1)) := by
      unfold natV
      rw [show j + 1 - 1 = j by omega, Int.mul_comm (gV F i (j + 1)) (s 1)]
      by_cases q : fe F j = 1
      · rw [if_pos (show iz (fe F j : Int) = iz (1 : Int) by rw [q]; rfl), if_pos q, show (2 : Int32) = iz (2 : Int) from rfl, iz_add]
      · rw [if_neg (show ¬ iz (fe F j : Int) = iz (1 : Int) from ne_cnt (i := 1) q (by omega) (by omega)), if_neg q, show (0 : Int32) = iz (0 : Int) from rfl, iz_add]
    rw [en, ← e17, hrat, b_s1, nmq_q, ← e20]
  · rw [gi20, hfar 1 (by omega) (by omega) (by omega) (by omega) (by omega) (by omega)]; exact l1
  · rw [gi20, g17, if_neg (by omega), g14, if_neg (by omega), g9', if_neg (by omega), g6, if_neg (by omega), g3, if_pos rfl]; congr 1; omega
  · rw [gi20, hfar 7 (by omega) (by omega) (by omega) (by omega) (by omega) (by omega)]; exact l7
  · rw [gi20, g17, if_neg (by omega), g14, if_neg (by omega), g9', if_neg (by omega), g6, if_pos rfl]
  · rw [gi20, h17_9]; unfold gW; rw [if_neg (by omega)]
  · rw [gi20, h17_5]; rfl
  · rw [gi20, g17, if_neg (by omega), g14, if_pos rfl]; rfl
  · rw [gi20, h17_4]
  · rw [e20, gf_sf', if_pos ⟨rfl, rfl⟩]
  · unfold cMs
    have gf20 : gf M' 127 17 = gf M17 127 17 := by rw [e20, gf_sf', if_neg (by omega)]
    rw [gi20, gf20]; exact m17
section
variable {M : Mem} {F : List Fr} {s : Nat → Int} {i j : Nat}
theorem cLn.fit (hs : okS s) (hk : okFs F) (hm : cMs M s) (hij : i < j) (hj : j ≤ F.length) (hL : cLn M F s i j) : f_X2_fits M = some (if fitV F s i j = true then 1 else 0) := by
  have e6 := (hL.2.2.2.2.2 hij).2.2.2
  have hne := rat_ne hk hs hij hj
  obtain ⟨l1, l2⟩ := loo_b hs
  unfold f_X2_fits
  rw [e6, hm.2.2.2.2.2.2.2, (fc_val hne c_m1.1).2, (fc_val hne (nn_ne l1)).1]
  by_cases q1 : zv (ratV F s i j) < zv (3212836864 : UInt32)
  · rw [if_pos (cmp3_lt.mpr q1), if_neg (fun e => by have := (fit_iff.mp e).1; omega)]
  rw [if_neg (fun e => q1 (cmp3_lt.mp e))]
  by_cases q2 : zv (looV s) < zv (ratV F s i j)
  · rw [if_pos (cmp3_gt.mpr q2), if_neg (fun e => by have := (fit_iff.mp e).2; omega)]
  · rw [if_neg (fun e => q2 (cmp3_gt.mp e)), if_pos (fit_iff.mpr ⟨by omega, by omega⟩)]
theorem cLn.full (hs : okS s) (hk : okFs F) (hm : cMs M s) (hij : i < j) (hj : j ≤ F.length) (hL : cLn M F s i j) : f_X2_isFull M = some (if fullB F s i j = true then 1 else 0) := by
  have e5 := (hL.2.2.2.2.2 hij).1
  have hb := fw_b hk (j - 1)
  have hw := wS_le hk (i := i) (j := j) (by omega) hj
  have hg := gV_b hk hij hj
  have hsh := shrV_b hs
  have h0 := hs.1
  have h1 := hs.2.1
  have hmul := mul_b (a := gV F i j) (b := s 1 - shrV s) (A := 160) (B := 9) hg.1 hg.2 (by omega) (by omega)
  have e9 : gi M 127 9 = iz (gV F i j) := by rw [hL.2.2.2.2.1]; unfold gW; rw [if_neg (by omega)]
  unfold f_X2_isFull
  rw [e5]
  by_cases q1 : fe F (j - 1) = 2
  · rw [if_pos (show iz (fe F (j - 1) : Int) = (2 : Int32) by rw [q1]; rfl), if_pos (fullB_iff.mpr (Or.inl q1))]
  rw [if_neg (show ¬ iz (fe F (j - 1) : Int) = (2 : Int32) from ne_cnt (i := 2) q1 (by omega) (by omega)), hL.2.2.2.1, e9, hm.1, hm.2.1, hm.2.2.2.1, iz_sub, iz_mul, iz_add]
  by_cases q2 : s 0 < wS F j - wS F i + gV F i j * (s 1 - shrV s)
  · rw [if_neg (nle_iz (by omega) (by omega) (by omega) (by omega) (by omega)), if_pos (fullB_iff.mpr (Or.inr q2))]
  · rw [if_pos (le_iz (by omega) (by omega) (by omega) (by omega) (by omega)), if_neg (fun e => by rcases fullB_iff.mp e with t | t; exact q1 t; exact q2 t)]
theorem cLn.bad (hs : okS s) (hk : okFs F) (hij : i < j) (hj : j ≤ F.length) (hf : fitV F s i j = true) (hL : cLn M F s i j) : f_X2_badnessOfLine M = some (badV (ratV F s i j)) := by
  have e6 := (hL.2.2.2.2.2 hij).2.2.2
  have hne := rat_ne hk hs hij hj
  obtain ⟨r1, r2, r3⟩ := rat_fit hk hs hij hj hf
  obtain ⟨b1, b2, b3, b4⟩ := bad_b r1 r2
  unfold f_X2_badnessOfLine
  rw [e6, (fc_val hne (nn_ne c_0.1)).1]
  have e : (if 0 ≤ cmp3 (zv (ratV F s i j)) (zv FP.fconst0) then (ratV F s i j) else ((FP.fneg (ratV F s i j)))) = unsV (ratV F s i j) := by
    unfold unsV
    by_cases q : 0 ≤ zv (ratV F s i j)
    · rw [if_pos (cmp3_ge.mpr (by rw [c_0.2.2]; exact q)), if_pos q]
    · rw [if_neg (fun t => q (by have := cmp3_ge.mp t; rw [c_0.2.2] at this; exact this)), if_neg q]
  rw [e, nmq_q, nmq_q, g_t (nN_of (nn_ne b1)), nmq_q, g_t (nN_of (nn_ne b2)), nmq_q, g_t (nN_of (nn_ne b3))]
  rfl
theorem cLn.wid (hk : okFs F) (hij : i < j) (hj : j ≤ F.length) (hL : cLn M F s i j) : f_X2_isWidow M = some (if widB F i j = true then 1 else 0) := by
  obtain ⟨e5, e3, -, -⟩ := hL.2.2.2.2.2 hij
  have hl := hk.1
  have b1 := fw_b hk (j - 1)
  have b2 := fw_b hk i
  have b3 := fw_b hk (i - 1)
  unfold f_X2_isWidow
  rw [e3, e5, hL.1, hL.2.2.1]
  by_cases q2 : fn F i = fn F (j - 1)
  case neg => rw [if_neg (show ¬ iz ((fn F (j - 1) : Int) - (fn F i : Int) + 1) = (1 : Int32) from neq_iz (b := 1) (by omega) (by omega) (by omega) (by omega) (by omega)), if_neg (fun e => q2 (widB_iff.mp e).2.1)]
  rw [if_pos (show iz ((fn F (j - 1) : Int) - (fn F i : Int) + 1) = (1 : Int32) by rw [show (fn F (j - 1) : Int) - (fn F i : Int) + 1 = 1 by omega]; rfl)]
  by_cases q1 : 2 ≤ fe F (j - 1)
  case neg => rw [if_pos (show iz (fe F (j - 1) : Int) < (2 : Int32) from lt_iz (b := 2) (by omega) (by omega) (by omega) (by omega) (by omega)), if_neg (fun e => q1 (widB_iff.mp e).1)]
  rw [if_neg (show ¬ iz (fe F (j - 1) : Int) < (2 : Int32) from nlt_iz (b := 2) (by omega) (by omega) (by omega) (by omega) (by omega))]
  by_cases q3 : 0 < i
  case neg => rw [if_pos ((pos_iz (by omega) (by omega)).mpr (by omega)), if_neg (fun e => q3 (widB_iff.mp e).2.2.1)]
  rw [if_neg (fun e => by have := (pos_iz (by omega) (by omega)).mp e; omega), if_pos q3]
  by_cases q4 : 2 ≤ fe F (i - 1)
  · rw [if_pos (show (2 : Int32) ≤ iz (fe F (i - 1) : Int) from le_iz (a := 2) (by omega) (by omega) (by omega) (by omega) (by omega)), if_neg (fun e => by have := (widB_iff.mp e).2.2.2; omega)]
  · rw [if_neg (show ¬ (2 : Int32) ≤ iz (fe F (i - 1) : Int) from nle_iz (a := 2) (by omega) (by omega) (by omega) (by omega) (by omega)), if_pos (widB_iff.mpr ⟨q1, q2, q3, by omega⟩)]
theorem cLn.dem (hs : okS s) (hk : okFs F) (hm : cMs M s) (hij : i < j) (hj : j ≤ F.length) (hf : fitV F s i j = true) (hL : cLn M F s i j) : f_X2_demeritsOfLine M = some (demV F s i j) := by
  have hl := hk.1
  have ok7 := hs.2.2.2.2.2.2.2.1
  have ok6 := hs.2.2.2.2.2.2.1
  obtain ⟨r1, r2, r3⟩ := rat_fit hk hs hij hj hf
  obtain ⟨-, -, b1, b2⟩ := bad_b r1 r2
  obtain ⟨o1, o2, o3⟩ := one_bad (b := badV (ratV F s i j)) b1 b2
  obtain ⟨p1, p2⟩ := cost_b (F := F) hs j
  obtain ⟨n1, n2, n3, n4, n5, m1, m2, m3⟩ := man_b (s := s) o1 o2 o3 p1 p2
  obtain ⟨y0, y1, y2, y3⟩ := hyp_b (F := F) (i := i) (j := j) m1 m2 m3
  obtain ⟨-, -, -, d4⟩ := dem_b hk hs hij hj hf
  have hb := fw_b hk (j - 1)
  have hbi := fw_b hk (i - 1)
  obtain ⟨e5, -, -, -⟩ := hL.2.2.2.2.2 hij
  obtain ⟨w1, w2⟩ := widc_b hs
  unfold f_X2_demeritsOfLine
  rw [nmq_q, e5]
  have ecost : (if iz (fe F (j - 1) : Int) = (1 : Int32) then ((FP.i2f (gi M 127 14))) else (FP.fconst0)) = costV F s j := by
    unfold costV
    rw [hm.2.2.2.2.1]
    by_cases q : fe F (j - 1) = 1
    · rw [if_pos (show iz (fe F (j - 1) : Int) = (1 : Int32) by rw [q]; rfl), if_pos q]
    · rw [if_neg (show ¬ iz (fe F (j - 1) : Int) = (1 : Int32) from ne_cnt (i := 1) q (by omega) (by omega)), if_neg q]
  rw [ecost, hL.bad hs hk hij hj hf, b_s1, nmq_q, g_t (nN_of (nn_ne o1))]
  have eman : f_X2_demeritsByManner (FP.fadd FP.fconst1 (badV (ratV F s i j))) (costV F s j) M = some (manV s (FP.fadd FP.fconst1 (badV (ratV F s i j))) (costV F s j)) := by
    unfold f_X2_demeritsByManner manV
    rw [hm.2.2.2.2.2.1]
    by_cases q0 : s 7 = 0
    · rw [if_pos ((zero_iz (by omega) (by omega)).mpr q0), if_pos q0, nmq_q, g_t (nN_of (nn_ne n2)), nmq_q, g_t (nN_of (nn_ne n3)), nmq_q, g_t (nN_of (nn_ne n4))]
    · rw [if_neg (fun e => q0 ((zero_iz (by omega) (by omega)).mp e)), if_neg q0, nmq_q, g_t (nN_of (nn_ne n1))]
      by_cases q1 : s 7 = 1
      · rw [if_pos (show iz (s 7) = (1 : Int32) by rw [q1]; rfl), if_pos q1, nmq_q, g_t (nN_of (nn_ne n5))]
      · rw [if_neg (show ¬ iz (s 7) = (1 : Int32) from neq_iz (b := 1) (by omega) (by omega) (by omega) (by omega) q1), if_neg q1]
  have edem : demV F s i j = (if widB F i j = true then FP.fadd (hypV F i j (manV s (FP.fadd FP.fconst1 (badV (ratV F s i j))) (costV F s j))) (FP.i2f (iz (1000 * s 6))) else hypV F i j (manV s (FP.fadd FP.fconst1 (badV (ratV F s i j))) (costV F s j))) := rfl
  rw [eman, b_s1, edem]
  generalize manV s (FP.fadd FP.fconst1 (badV (ratV F s i j))) (costV F s j) = mv at y0 y1 d4 ⊢
  have ehyp : (if iz (fe F (j - 1) : Int) = (1 : Int32) then (if (gi M 127 7) = (1 : Int32) then (nmq (FP.fadd mv (1161527296 : UInt32)) (fun (x21 : UInt32) => gq (nN x21) ((some (x21))))) else (some (mv))) else (some (mv))) = some (hypV F i j mv) := by
    unfold hypV
    rw [hL.2.2.1]
    by_cases q : fe F (j - 1) = 1
    · rw [if_pos (show iz (fe F (j - 1) : Int) = (1 : Int32) by rw [q]; rfl)]
      by_cases q3 : 0 < i
      · rw [if_pos q3]
        by_cases q4 : fe F (i - 1) = 1
        · rw [if_pos (show iz (fe F (i - 1) : Int) = (1 : Int32) by rw [q4]; rfl), nmq_q, g_t (nN_of (nn_ne y0)), if_pos ⟨q, q3, q4⟩]
        · rw [if_neg (show ¬ iz (fe F (i - 1) : Int) = (1 : Int32) from ne_cnt (i := 1) q4 (by omega) (by omega)), if_neg (fun e => q4 e.2.2)]
      · rw [if_neg q3, if_neg (show ¬ iz ((0 : Nat) : Int) = (1 : Int32) by decide), if_neg (fun e => q3 e.2.1)]
    · rw [if_neg (show ¬ iz (fe F (j - 1) : Int) = (1 : Int32) from ne_cnt (i := 1) q (by omega) (by omega)), if_neg (fun e => q e.1)]
  have ewid : FP.fmul (FP.i2f (gi M 127 16)) (1148846080 : UInt32) = FP.i2f (iz (1000 * s 6)) := by
    rw [hm.2.2.2.2.2.2.1]
    obtain ⟨t, ht⟩ : ∃ t : Nat, s 6 = (t : Int) := ⟨(s 6).toNat, by omega⟩
    rw [ht]
    exact wid_all ⟨t, by omega⟩
  rw [ehyp, b_s1, hL.wid hk hij hj, b_s1, ewid]
  by_cases q : widB F i j = true
  · rw [if_pos q, if_neg (by decide), if_pos q, nmq_q, g_t (nN_of (nn_ne w1)), nmq_q, g_t (nN_of (nn_ne d4))]
  · rw [if_neg q, if_pos rfl, if_neg q]
end
